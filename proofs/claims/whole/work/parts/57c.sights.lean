/-! sights: how often one was there -/
def inb (m : Nat → Int32) (i : Nat) (w v n : Int32) : Int32 := if ps (m 23) (m (25 + n.toNatClampNeg % 6)) 0 < lk (m (31 + i)) w v n then 0 else 1
theorem inb01 (m : Nat → Int32) (i : Nat) (w v n : Int32) : inb m i w v n = 0 ∨ inb m i w v n = 1 := by
  unfold inb; split
  · exact Or.inl rfl
  · exact Or.inr rfl
section QS
variable {wets gc sc m : Nat → Int32} {gn sn host : Int32} {n i R : Nat}
theorem q_letIn {t : Nat} (hW : GW wets m) (hG : GG gc m) (hg : gn = nI n) (hm : m 0 = nI n) (hn : n ≤ 7) (hi : i < n) (hh : host = m 23) (w v : Int32) (ht : t < 2 ^ 31) : f_X7_letIn wets gc gn host (nI i) w v (nI t) = some (inb m i w v (nI t)) := by
  obtain ⟨g1, -⟩ := hG.2.2.2 i (by rw [hm, nI_toInt (by omega)]; omega)
  unfold f_X7_letIn f_X1_likely f_X1_letsPass inb
  rw [gcell0 gc hg hn hi, b_some, q_lk, b_some, b_some, q_wetOf wets ht, b_some, q_ps, b_some, b_some, g1, hh, (hW _ (nat6 t)).1, nI_clamp ht]
  split <;> rfl
theorem q_inBy9 {t : Nat} (hi : i < 7) (w v : Int32) (ht : t < 2 ^ 31) : f_X9_isInBy m (nI i) w v (nI t) = some (inb m i w v (nI t)) := by
  unfold f_X9_isInBy inb
  rw [show (31 : Int32) + nI i = nI (31 + i) from na_add 31 i, if_pos (nI_in (by omega) (by decide)), nI_clamp (by omega), q_lk9, b_some, q_wetOf9 m (by decide) (by decide) ht, b_some, show Int32.toNatClampNeg 23 = 23 from rfl, q_ps9, b_some, nI_clamp ht]
  split <;> rfl
def okS (m : Nat → Int32) (i v j : Nat) : Bool := decide (¬ m (38 + 4 * j) = nI i) || decide (inb m i (m (38 + 4 * j + 1)) (nI v) (m (38 + 4 * j + 2)) = (if m (38 + 4 * j + 3) = (1 : Int32) then 1 else 0))
theorem q_fitsS (hS : GS sc m) (hW : GW wets m) (hG : GG gc m) (hg : gn = nI n) (hm0 : m 0 = nI n) (hn : n ≤ 7) (hi : i < n) (hh : host = m 23) (v : Nat) (hr : sn = nI R) (hm : m 1 = nI R) (hR : R ≤ 5) : ∀ (d j fu : Nat), j + d = R → d < fu → allb (okS m i v) j = true → f_X7_fitsSights_b9 wets gc gn sc sn host fu (nI i) (nI v) (nI j) = some (bi (allb (okS m i v) R)) := by
  intro d
  induction d with
  | zero =>
    intro j fu h1 h2 h3
    obtain ⟨fu, rfl⟩ : ∃ k, fu = k + 1 := ⟨fu - 1, by omega⟩
    have e : j = R := by omega
    subst e
    rw [f_X7_fitsSights_b9, hr, if_pos (nI_le (by omega) (by omega)), h3] <;> rfl
  | succ d ih =>
    intro j fu h1 h2 h3
    obtain ⟨fu, rfl⟩ : ∃ k, fu = k + 1 := ⟨fu - 1, by omega⟩
    obtain ⟨g, -, -, g3, -⟩ := hS j (by rw [hm, nI_toInt (by omega)]; omega)
    obtain ⟨t, ht, et⟩ := rg_nI (h := 99) g3 (by decide)
    have et' : m (38 + 4 * j + 2) = nI t := et
    have c : ∀ q : Nat, q < 4 → f_X5_cell 20 (4 : Int32) sc sn (nI j) (nI q) = some (m (38 + 4 * j + q)) := fun q hq => by
      rw [q_cell (N := 20) (W := 4) (w := 4) (R := R) (i := j) (j := q) sc rfl hr rfl rfl (by omega) hq (by omega) (by decide) (by omega) (by decide), Nat.mul_comm j 4, g q hq, Nat.add_assoc]
    have c0 : f_X5_cell 20 (4 : Int32) sc sn (nI j) (0 : Int32) = some (m (38 + 4 * j)) := c 0 (by decide)
    have c1 : f_X5_cell 20 (4 : Int32) sc sn (nI j) (1 : Int32) = some (m (38 + 4 * j + 1)) := c 1 (by decide)
    have c2 : f_X5_cell 20 (4 : Int32) sc sn (nI j) (2 : Int32) = some (m (38 + 4 * j + 2)) := c 2 (by decide)
    have c3 : f_X5_cell 20 (4 : Int32) sc sn (nI j) (3 : Int32) = some (m (38 + 4 * j + 3)) := c 3 (by decide)
    have fin : okS m i v j = true → f_X7_fitsSights_b83 (f_X7_fitsSights_b9 wets gc gn sc sn host fu) wets gc gn sc sn host (nI i) (nI v) (nI j) = some (bi (allb (okS m i v) R)) := fun ho => by
      unfold f_X7_fitsSights_b83
      rw [show nI j + (1 : Int32) = nI (j + 1) from na_add j 1]
      exact ih (j + 1) fu (by omega) (by omega) (by rw [allb, h3, ho] <;> rfl)
    have mid : m (38 + 4 * j) = nI i → f_X7_fitsSights_b78 (f_X7_fitsSights_b9 wets gc gn sc sn host fu) wets gc gn sc sn host (nI i) (nI v) (nI j) (if m (38 + 4 * j + 3) = (1 : Int32) then 1 else 0) (inb m i (m (38 + 4 * j + 1)) (nI v) (m (38 + 4 * j + 2))) = some (bi (allb (okS m i v) R)) := fun e => by
      unfold f_X7_fitsSights_b78
      by_cases w : inb m i (m (38 + 4 * j + 1)) (nI v) (m (38 + 4 * j + 2)) = (if m (38 + 4 * j + 3) = (1 : Int32) then 1 else 0)
      · rw [if_pos w]
        exact fin (by unfold okS; rw [decide_eq_true w, Bool.or_true])
      · have ho : okS m i v j = false := by
          unfold okS; rw [decide_eq_false w, decide_eq_false (fun h => h e)] <;> rfl
        rw [if_neg w, allb_no ho R (by omega)] <;> rfl
    rw [f_X7_fitsSights_b9, if_neg (by rw [hr]; exact nI_ge (by omega) (by omega)), c0, b_some]
    by_cases e : m (38 + 4 * j) = nI i
    · have hmid := mid e
      rw [if_pos e, c1, b_some, c2, b_some, et', q_letIn hW hG hg hm0 hn hi hh _ _ (by omega), b_some, c3, b_some]
      rw [et'] at hmid
      by_cases z : m (38 + 4 * j + 3) = (1 : Int32)
      · rw [if_pos z] at hmid ⊢; exact hmid
      · rw [if_neg z] at hmid ⊢; exact hmid
    · rw [if_neg e]
      exact fin (by unfold okS; rw [decide_eq_true e, Bool.true_or])
theorem q_often9 (hS : GS sc m) (hi : i < 7) (v : Nat) (hm : m 1 = nI R) (hR : R ≤ 5) : f_X9_isOften m (nI i) (nI v) = some (bi (allb (okS m i v) R)) := by
  have loop : ∀ (d j fu : Nat), j + d = R → d < fu → f_X9_isOften_b5 m fu (nI i) (nI v) (bi (allb (okS m i v) j)) (nI j) = some (bi (allb (okS m i v) R)) := by
    intro d
    induction d with
    | zero =>
      intro j fu h1 h2
      obtain ⟨fu, rfl⟩ : ∃ k, fu = k + 1 := ⟨fu - 1, by omega⟩
      have e : j = R := by omega
      subst e
      rw [f_X9_isOften_b5, show Int32.toNatClampNeg 1 = 1 from rfl, hm, if_pos (nI_le (by omega) (by omega))]
      cases allb (okS m i v) j <;> rfl
    | succ d ih =>
      intro j fu h1 h2
      obtain ⟨fu, rfl⟩ : ∃ k, fu = k + 1 := ⟨fu - 1, by omega⟩
      obtain ⟨g, -, -, g3, -⟩ := hS j (by rw [hm, nI_toInt (by omega)]; omega)
      obtain ⟨t, ht, et⟩ := rg_nI (h := 99) g3 (by decide)
      have et' : m (38 + 4 * j + 2) = nI t := et
      have h := ih (j + 1) fu (by omega) (by omega)
      rw [allb] at h
      rw [f_X9_isOften_b5, show Int32.toNatClampNeg 1 = 1 from rfl, hm, if_neg (nI_ge (by omega) (by omega))]
      unfold f_X9_isOften_b82 f_X9_isOften_b89 f_X9_isOften_b85 f_X9_isOften_b90
      rw [show nI j + (1 : Int32) = nI (j + 1) from na_add j 1]
      cases hj : allb (okS m i v) j with
      | false =>
        rw [hj, Bool.false_and] at h
        rw [if_pos bi_f]; exact h
      | true =>
        rw [hj, Bool.true_and] at h
        rw [if_neg bi_t, show (4 : Int32) * nI j = nI (4 * j) from na_mul 4 j, show (38 : Int32) + nI (4 * j) = nI (38 + 4 * j) from na_add 38 (4 * j), show nI (38 + 4 * j) + (1 : Int32) = nI (38 + 4 * j + 1) from na_add _ 1, show nI (38 + 4 * j) + (2 : Int32) = nI (38 + 4 * j + 2) from na_add _ 2, show nI (38 + 4 * j) + (3 : Int32) = nI (38 + 4 * j + 3) from na_add _ 3]
        rw [if_pos (nI_in (by omega) (by decide)), if_pos (nI_in (by omega) (by decide)), if_pos (nI_in (by omega) (by decide)), nI_clamp (by omega), nI_clamp (by omega), nI_clamp (by omega), et', q_inBy9 hi _ _ (by omega), b_some, if_pos (nI_in (by omega) (by decide)), nI_clamp (by omega)]
        by_cases e : m (38 + 4 * j) = nI i
        · rw [if_pos e]
          by_cases w : inb m i (m (38 + 4 * j + 1)) (nI v) (m (38 + 4 * j + 2)) = (if m (38 + 4 * j + 3) = (1 : Int32) then 1 else 0)
          · have ho : okS m i v j = true := by unfold okS; rw [decide_eq_true w, Bool.or_true]
            rw [ho] at h
            rw [et'] at w
            by_cases z : m (38 + 4 * j + 3) = (1 : Int32)
            · rw [if_pos z] at w ⊢; rw [if_pos w]; exact h
            · rw [if_neg z] at w ⊢; rw [if_pos w]; exact h
          · have ho : okS m i v j = false := by
              unfold okS; rw [decide_eq_false w, decide_eq_false (fun h => h e)] <;> rfl
            rw [ho] at h
            rw [et'] at w
            by_cases z : m (38 + 4 * j + 3) = (1 : Int32)
            · rw [if_pos z] at w ⊢; rw [if_neg w]; exact h
            · rw [if_neg z] at w ⊢; rw [if_neg w]; exact h
        · have ho : okS m i v j = true := by unfold okS; rw [decide_eq_true e, Bool.true_or]
          rw [ho] at h
          rw [if_neg e]; exact h
  exact loop R 0 s_fuel (by omega) (by unfold s_fuel; omega)
/-- how often it may have been -/
def vis (m : Nat → Int32) (i R : Nat) : Nat → Bool := fun v => allb (okS m i v) R
theorem q_vis8 (hS : GS sc m) (hW : GW wets m) (hG : GG gc m) (hg : gn = nI n) (hm0 : m 0 = nI n) (hn : n ≤ 7) (hi : i < n) (hh : host = m 23) (hr : sn = nI R) (hm : m 1 = nI R) (hR : R ≤ 5) : f_X7_visitsThatFit wets gc gn sc sn host (nI i) = some (nI (msk (vis m i R) 31)) := by
  have loop : ∀ (d v fu : Nat), v + d = 31 → d < fu → f_X7_visitsThatFit_b5 wets gc gn sc sn host fu (nI i) (nI (msk (vis m i R) v)) (nI v) = some (nI (msk (vis m i R) 31)) := by
    intro d
    induction d with
    | zero =>
      intro v fu h1 h2
      obtain ⟨fu, rfl⟩ : ∃ k, fu = k + 1 := ⟨fu - 1, by omega⟩
      rw [f_X7_visitsThatFit_b5, show v = 31 by omega, if_pos (show (30 : Int32) < nI 31 by decide)]
    | succ d ih =>
      intro v fu h1 h2
      obtain ⟨fu, rfl⟩ : ∃ k, fu = k + 1 := ⟨fu - 1, by omega⟩
      have h := ih (v + 1) fu (by omega) (by omega)
      have hf : f_X7_fitsSights wets gc gn sc sn host (nI i) (nI v) = some (bi (vis m i R v)) := q_fitsS hS hW hG hg hm0 hn hi hh v hr hm hR R 0 s_fuel (by omega) (by unfold s_fuel; omega) rfl
      rw [f_X7_visitsThatFit_b5, if_neg (show ¬ (30 : Int32) < nI v from nI_nlt (b := v) (a := 30) (by omega) (by omega)), hf, b_some]
      unfold f_X7_visitsThatFit_b30
      rw [show nI v + (1 : Int32) = nI (v + 1) from na_add v 1]
      cases hv : vis m i R v with
      | false => rw [if_pos bi_f, msk_f hv]; exact h
      | true => rw [if_neg bi_t, msk_t (by omega) hv]; exact h
  exact loop 31 0 s_fuel (by omega) (by unfold s_fuel; omega)
end QS
/-- the first of them, and the last -/
def fstw (g : Nat → Bool) : Nat → Int32
  | 0 => -1
  | v + 1 => if g v then (if cntb g v = 0 then nI v else fstw g v) else fstw g v
def lstw (g : Nat → Bool) : Nat → Int32
  | 0 => -1
  | v + 1 => if g v then nI v else lstw g v
theorem cntb_le2 {g : Nat → Bool} {v : Nat} : ∀ n : Nat, v ≤ n → cntb g v ≤ cntb g n
  | 0, h => by rw [show v = 0 by omega]; exact Nat.le_refl _
  | n + 1, h => by
    by_cases e : v = n + 1
    · rw [e]; exact Nat.le_refl _
    · exact Nat.le_trans (cntb_le2 n (by omega)) (by rw [cntb]; omega)
theorem cntb_t {g : Nat → Bool} {v : Nat} (h : g v = true) : cntb g (v + 1) = cntb g v + 1 := by rw [cntb, h, if_pos rfl]
theorem cntb_f {g : Nat → Bool} {v : Nat} (h : g v = false) : cntb g (v + 1) = cntb g v := by rw [cntb, h, if_neg (by decide), Nat.add_zero]
theorem fstw_hit {g : Nat → Bool} {v : Nat} (h : g v = true) (h0 : cntb g v = 0) : ∀ n : Nat, v < n → fstw g n = nI v
  | 0, hn => by omega
  | n + 1, hn => by
    by_cases e : v = n
    · subst e; rw [fstw, if_pos h, if_pos h0]
    · have hp : 0 < cntb g n := Nat.lt_of_lt_of_le (by rw [cntb_t h]; omega) (cntb_le2 (v := v + 1) n (by omega))
      rw [fstw, fstw_hit h h0 n (by omega), if_neg (show ¬ cntb g n = 0 by omega), ite_self]
theorem fstw_none {g : Nat → Bool} : ∀ n : Nat, cntb g n = 0 → fstw g n = -1
  | 0, _ => rfl
  | n + 1, h => by
    rw [fstw]
    cases e : g n with
    | true => rw [cntb_t e] at h; omega
    | false => rw [cntb_f e] at h; rw [if_neg (by decide)]; exact fstw_none n h
theorem q_bitc {g : Nat → Bool} {v : Nat} (hv : v < 31) : (((nI (msk g 31) >>> (nI v &&& 31)) &&& (1 : Int32)) = (1 : Int32)) ↔ g v = true := by
  rw [na_bit (msk_lt g 31) hv, msk_bit g 31 v hv]
  cases g v
  · rw [if_neg (by decide)]; decide
  · rw [if_pos rfl]; decide
theorem q_least (g : Nat → Bool) : f_X7_least (nI (msk g 31)) = some (fstw g 31) := by
  have loop : ∀ (d v fu : Nat), v + d = 31 → d < fu → cntb g v = 0 → f_X7_least_b2 fu (nI (msk g 31)) (nI v) = some (fstw g 31) := by
    intro d
    induction d with
    | zero =>
      intro v fu h1 h2 h3
      obtain ⟨fu, rfl⟩ : ∃ k, fu = k + 1 := ⟨fu - 1, by omega⟩
      have e : v = 31 := by omega
      subst e
      rw [f_X7_least_b2, if_pos (show (30 : Int32) < nI 31 by decide), fstw_none 31 h3]
    | succ d ih =>
      intro v fu h1 h2 h3
      obtain ⟨fu, rfl⟩ : ∃ k, fu = k + 1 := ⟨fu - 1, by omega⟩
      rw [f_X7_least_b2, if_neg (show ¬ (30 : Int32) < nI v from nI_nlt (b := v) (a := 30) (by omega) (by omega))]
      cases hv : g v with
      | true => rw [if_pos ((q_bitc (by omega)).mpr hv), fstw_hit hv h3 31 (by omega)]
      | false =>
        rw [if_neg (fun h => by rw [(q_bitc (by omega)).mp h] at hv; exact absurd hv (by decide)), show nI v + (1 : Int32) = nI (v + 1) from na_add v 1]
        exact ih (v + 1) fu (by omega) (by omega) (by rw [cntb_f hv, h3])
  exact loop 31 0 s_fuel (by omega) (by unfold s_fuel; omega) rfl
theorem q_greatest (g : Nat → Bool) : f_X7_greatest (nI (msk g 31)) = some (lstw g 31) := by
  have loop : ∀ (v fu : Nat), v ≤ 31 → v < fu → f_X7_greatest_b3 fu (nI (msk g 31)) (nI v - 1) = some (lstw g v) := by
    intro v
    induction v with
    | zero =>
      intro fu h1 h2
      obtain ⟨fu, rfl⟩ : ∃ k, fu = k + 1 := ⟨fu - 1, by omega⟩
      rw [f_X7_greatest_b3, if_pos (show nI 0 - 1 < (0 : Int32) by decide)] <;> rfl
    | succ v ih =>
      intro fu h1 h2
      obtain ⟨fu, rfl⟩ : ∃ k, fu = k + 1 := ⟨fu - 1, by omega⟩
      rw [f_X7_greatest_b3, nI_pred, if_neg (nI_pos (by omega)), lstw]
      cases hv : g v with
      | true => rw [if_pos ((q_bitc (by omega)).mpr hv), if_pos rfl]
      | false =>
        rw [if_neg (fun h => by rw [(q_bitc (by omega)).mp h] at hv; exact absurd hv (by decide)), if_neg (by decide), ← Int32.sub_eq_add_neg]
        exact ih fu (by omega) (by omega)
  exact loop 31 s_fuel (by omega) (by unfold s_fuel; omega)
section QO
variable {sc m r : Nat → Int32} {i R : Nat}
theorem q_often38 (hS : GS sc m) (hi : i < 7) (hm : m 1 = nI R) (hR : R ≤ 5) (p : Int32) : ∀ (d v fu : Nat), v + d = 31 → d < fu → f_X9_often_b38 m fu r (nI i) p (nI (cntb (vis m i R) v)) (fstw (vis m i R) v) (lstw (vis m i R) v) (nI v) = some (if p = 0 then nI (cntb (vis m i R) 31) else if p = 1 then fstw (vis m i R) 31 else lstw (vis m i R) 31, r) := by
  intro d
  induction d with
  | zero =>
    intro v fu h1 h2
    obtain ⟨fu, rfl⟩ : ∃ k, fu = k + 1 := ⟨fu - 1, by omega⟩
    rw [f_X9_often_b38, show v = 31 by omega, if_pos (show (30 : Int32) < nI 31 by decide)]
    by_cases e : p = 0
    · rw [if_pos e, if_pos e]
    · rw [if_neg e, if_neg e]
      by_cases e : p = 1
      · rw [if_pos e, if_pos e]
      · rw [if_neg e, if_neg e]
  | succ d ih =>
    intro v fu h1 h2
    obtain ⟨fu, rfl⟩ : ∃ k, fu = k + 1 := ⟨fu - 1, by omega⟩
    have h := ih (v + 1) fu (by omega) (by omega)
    rw [fstw, lstw] at h
    have hc := cntb_le (vis m i R) v
    rw [f_X9_often_b38, if_neg (show ¬ (30 : Int32) < nI v from nI_nlt (b := v) (a := 30) (by omega) (by omega)), show f_X9_isOften m (nI i) (nI v) = some (bi (vis m i R v)) from q_often9 hS hi v hm hR, b_some]
    unfold f_X9_often_b66 f_X9_often_b75
    rw [show nI v + (1 : Int32) = nI (v + 1) from na_add v 1]
    cases hv : vis m i R v with
    | false =>
      rw [hv, if_neg (by decide), if_neg (by decide), cntb_f hv] at h
      rw [if_pos bi_f]; exact h
    | true =>
      rw [hv, if_pos rfl, if_pos rfl, cntb_t hv] at h
      rw [if_neg bi_t, show nI (cntb (vis m i R) v) + (1 : Int32) = nI (cntb (vis m i R) v + 1) from na_add _ 1]
      by_cases z : cntb (vis m i R) v = 0
      · rw [if_pos z] at h
        rw [if_pos (show nI (cntb (vis m i R) v) = 0 by rw [z] <;> rfl)]; exact h
      · rw [if_neg z] at h
        rw [if_neg (fun q => by exact z ((nI_eq (by omega) (by decide)).mp (show nI (cntb (vis m i R) v) = nI 0 from q)))]; exact h
end QO
