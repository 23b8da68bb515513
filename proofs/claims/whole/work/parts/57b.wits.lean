/-! what fits what was told -/
def bi (b : Bool) : Int32 := if b then 1 else 0
def allb (f : Nat → Bool) : Nat → Bool
  | 0 => true
  | n + 1 => allb f n && f n
theorem allb_no {f : Nat → Bool} {j : Nat} (h : f j = false) : ∀ n : Nat, j < n → allb f n = false
  | 0, hn => by omega
  | n + 1, hn => by
    rw [allb]
    by_cases e : j = n
    · rw [← e, h, Bool.and_false]
    · rw [allb_no h n (by omega), Bool.false_and]
theorem bi_t : ¬ bi true = 0 := by decide
theorem bi_f : bi false = 0 := rfl
theorem msk_step {g : Nat → Bool} {v : Nat} (hv : v < 31) : (nI (msk g v) ||| (if g v then (1 : Int32) <<< (nI v &&& 31) else 0)) = nI (msk g (v + 1)) := by
  rw [msk]
  cases g v with
  | false => rw [if_neg (by decide), if_neg (by decide), Int32.or_zero, Nat.add_zero]
  | true => rw [if_pos rfl, if_pos rfl]; exact msk_or hv
/-- a word of bits, one more at a time: the class's way -/
theorem msk_t {g : Nat → Bool} {v : Nat} (hv : v < 31) (h : g v = true) : (nI (msk g v) ||| (1 : Int32) <<< (nI v &&& 31)) = nI (msk g (v + 1)) := by
  have e := msk_step (g := g) hv
  rw [h, if_pos rfl] at e; exact e
theorem msk_f {g : Nat → Bool} {v : Nat} (h : g v = false) : msk g v = msk g (v + 1) := by
  rw [msk, h, if_neg (by decide), Nat.add_zero]
/-! remarks -/
def okN (m : Nat → Int32) (i kind j : Nat) : Bool := decide (¬ m (58 + 5 * j) = nI i) || decide (lk (nI kind) (m (58 + 5 * j + 1)) (m (58 + 5 * j + 2)) (m (58 + 5 * j + 3)) = m (58 + 5 * j + 4))
theorem q_fitsN {rc m : Nat → Int32} {rn : Int32} {R : Nat} (i kind : Nat) (hN : GN rc m) (hr : rn = nI R) (hm : m 2 = nI R) (hR : R ≤ 6) : ∀ (d j fu : Nat), j + d = R → d < fu → allb (okN m i kind) j = true → f_X7_fitsRemarks_b3 30 (5 : Int32) rc rn fu (nI i) (nI kind) (nI j) = some (bi (allb (okN m i kind) R)) := by
  intro d
  induction d with
  | zero =>
    intro j fu h1 h2 h3
    obtain ⟨fu, rfl⟩ : ∃ k, fu = k + 1 := ⟨fu - 1, by omega⟩
    have e : j = R := by omega
    subst e
    rw [f_X7_fitsRemarks_b3, hr, if_pos (nI_le (by omega) (by omega)), h3] <;> rfl
  | succ d ih =>
    intro j fu h1 h2 h3
    obtain ⟨fu, rfl⟩ : ∃ k, fu = k + 1 := ⟨fu - 1, by omega⟩
    obtain ⟨g, -⟩ := hN j (by rw [hm, nI_toInt (by omega)]; omega)
    have c : ∀ q : Nat, q < 5 → f_X5_cell 30 (5 : Int32) rc rn (nI j) (nI q) = some (m (58 + 5 * j + q)) := fun q hq => by
      rw [q_cell (N := 30) (W := 5) (w := 5) (R := R) (i := j) (j := q) rc rfl hr rfl rfl (by omega) hq (by omega) (by decide) (by omega) (by decide), Nat.mul_comm j 5, g q hq, Nat.add_assoc]
    have c0 : f_X5_cell 30 (5 : Int32) rc rn (nI j) (0 : Int32) = some (m (58 + 5 * j)) := c 0 (by decide)
    have c1 : f_X5_cell 30 (5 : Int32) rc rn (nI j) (1 : Int32) = some (m (58 + 5 * j + 1)) := c 1 (by decide)
    have c2 : f_X5_cell 30 (5 : Int32) rc rn (nI j) (2 : Int32) = some (m (58 + 5 * j + 2)) := c 2 (by decide)
    have c3 : f_X5_cell 30 (5 : Int32) rc rn (nI j) (3 : Int32) = some (m (58 + 5 * j + 3)) := c 3 (by decide)
    have c4 : f_X5_cell 30 (5 : Int32) rc rn (nI j) (4 : Int32) = some (m (58 + 5 * j + 4)) := c 4 (by decide)
    have fin : okN m i kind j = true → f_X7_fitsRemarks_b75 (f_X7_fitsRemarks_b3 30 (5 : Int32) rc rn fu) 30 (5 : Int32) rc rn (nI i) (nI kind) (nI j) = some (bi (allb (okN m i kind) R)) := fun ho => by
      unfold f_X7_fitsRemarks_b75
      rw [show nI j + (1 : Int32) = nI (j + 1) from na_add j 1]
      exact ih (j + 1) fu (by omega) (by omega) (by rw [allb, h3, ho] <;> rfl)
    rw [f_X7_fitsRemarks_b3, if_neg (by rw [hr]; exact nI_ge (by omega) (by omega)), c0, b_some]
    by_cases e : m (58 + 5 * j) = nI i
    · rw [if_pos e, c1, b_some, c2, b_some, c3, b_some, q_lk, b_some, c4, b_some]
      by_cases w : lk (nI kind) (m (58 + 5 * j + 1)) (m (58 + 5 * j + 2)) (m (58 + 5 * j + 3)) = m (58 + 5 * j + 4)
      · rw [if_pos w]
        exact fin (by unfold okN; rw [decide_eq_true w, Bool.or_true])
      · have ho : okN m i kind j = false := by
          unfold okN; rw [decide_eq_false w, decide_eq_false (fun h => h e)] <;> rfl
        rw [if_neg w, allb_no ho R (by omega)] <;> rfl
    · rw [if_neg e]
      exact fin (by unfold okN; rw [decide_eq_true e, Bool.true_or])
theorem q_fits9N {m : Nat → Int32} {R : Nat} (i kind : Nat) (x : Int32) (k : Int32 → Int32 → Int32 → Option Int32) (hm : m 2 = nI R) (hR : R ≤ 6) : ∀ (d j fu : Nat), j + d = R → d < fu → f_X9_kindsOfOne_b16 k m fu (nI i) x (nI kind) (bi (allb (okN m i kind) j)) (nI j) = k (nI i) (x ||| (if allb (okN m i kind) R then (1 : Int32) <<< (nI kind &&& 31) else 0)) (nI (kind + 1)) := by
  intro d
  induction d with
  | zero =>
    intro j fu h1 h2
    obtain ⟨fu, rfl⟩ : ∃ k, fu = k + 1 := ⟨fu - 1, by omega⟩
    have e : j = R := by omega
    subst e
    rw [f_X9_kindsOfOne_b16, show Int32.toNatClampNeg 2 = 2 from rfl, hm, if_pos (nI_le (by omega) (by omega))]
    unfold f_X9_kindsOfOne_b121
    rw [show nI kind + (1 : Int32) = nI (kind + 1) from na_add kind 1]
    cases allb (okN m i kind) j <;> rfl
  | succ d ih =>
    intro j fu h1 h2
    obtain ⟨fu, rfl⟩ : ∃ k, fu = k + 1 := ⟨fu - 1, by omega⟩
    have h := ih (j + 1) fu (by omega) (by omega)
    rw [allb] at h
    rw [f_X9_kindsOfOne_b16, show Int32.toNatClampNeg 2 = 2 from rfl, hm, if_neg (nI_ge (by omega) (by omega))]
    unfold f_X9_kindsOfOne_b99 f_X9_kindsOfOne_b95 f_X9_kindsOfOne_b100
    rw [show nI j + (1 : Int32) = nI (j + 1) from na_add j 1]
    cases hj : allb (okN m i kind) j with
    | false =>
      rw [hj, Bool.false_and] at h
      rw [if_pos bi_f]; exact h
    | true =>
      rw [hj, Bool.true_and] at h
      rw [if_neg bi_t, show (5 : Int32) * nI j = nI (5 * j) from na_mul 5 j, show (58 : Int32) + nI (5 * j) = nI (58 + 5 * j) from na_add 58 (5 * j), show nI (58 + 5 * j) + (1 : Int32) = nI (58 + 5 * j + 1) from na_add _ 1, show nI (58 + 5 * j) + (2 : Int32) = nI (58 + 5 * j + 2) from na_add _ 2, show nI (58 + 5 * j) + (3 : Int32) = nI (58 + 5 * j + 3) from na_add _ 3, show nI (58 + 5 * j) + (4 : Int32) = nI (58 + 5 * j + 4) from na_add _ 4]
      rw [if_pos (nI_in (by omega) (by decide)), if_pos (nI_in (by omega) (by decide)), if_pos (nI_in (by omega) (by decide)), if_pos (nI_in (by omega) (by decide)), nI_clamp (by omega), nI_clamp (by omega), nI_clamp (by omega), nI_clamp (by omega), q_lk9, b_some, if_pos (nI_in (by omega) (by decide)), nI_clamp (by omega)]
      by_cases e : m (58 + 5 * j) = nI i
      · rw [if_pos e]
        by_cases w : lk (nI kind) (m (58 + 5 * j + 1)) (m (58 + 5 * j + 2)) (m (58 + 5 * j + 3)) = m (58 + 5 * j + 4)
        · have ho : okN m i kind j = true := by unfold okN; rw [decide_eq_true w, Bool.or_true]
          rw [ho] at h
          rw [if_pos w]; exact h
        · have ho : okN m i kind j = false := by
            unfold okN; rw [decide_eq_false w, decide_eq_false (fun h => h e)] <;> rfl
          rw [ho] at h
          rw [if_neg w]; exact h
      · have ho : okN m i kind j = true := by unfold okN; rw [decide_eq_true e, Bool.true_or]
        rw [ho] at h
        rw [if_neg e]; exact h
/-- which kinds fit -/
def gkN (m : Nat → Int32) (i R : Nat) : Nat → Bool := fun kind => allb (okN m i kind) R
theorem q_gk8 {rc m : Nat → Int32} {rn : Int32} {R : Nat} (i : Nat) (hN : GN rc m) (hr : rn = nI R) (hm : m 2 = nI R) (hR : R ≤ 6) : f_X7_guestKinds rc rn (nI i) = some (nI (msk (gkN m i R) 6)) := by
  have loop : ∀ (d v fu : Nat), v + d = 6 → d < fu → f_X7_guestKinds_b5 rc rn fu (nI i) (nI (msk (gkN m i R) v)) (nI v) = some (nI (msk (gkN m i R) 6)) := by
    intro d
    induction d with
    | zero =>
      intro v fu h1 h2
      obtain ⟨fu, rfl⟩ : ∃ k, fu = k + 1 := ⟨fu - 1, by omega⟩
      rw [f_X7_guestKinds_b5, show v = 6 by omega, if_pos (show (6 : Int32) ≤ nI 6 by decide)]
    | succ d ih =>
      intro v fu h1 h2
      obtain ⟨fu, rfl⟩ : ∃ k, fu = k + 1 := ⟨fu - 1, by omega⟩
      have h := ih (v + 1) fu (by omega) (by omega)
      have hf : f_X7_fitsRemarks 30 (5 : Int32) rc rn (nI i) (nI v) = some (bi (gkN m i R v)) := q_fitsN i v hN hr hm hR R 0 s_fuel (by omega) (by unfold s_fuel; omega) rfl
      rw [f_X7_guestKinds_b5, if_neg (show ¬ (6 : Int32) ≤ nI v from nI_ge (b := 6) (by omega) (by decide)), hf, b_some]
      unfold f_X7_guestKinds_b33
      rw [show nI v + (1 : Int32) = nI (v + 1) from na_add v 1]
      cases hg : gkN m i R v with
      | false => rw [if_pos bi_f, msk_f hg]; exact h
      | true => rw [if_neg bi_t, msk_t (by omega) hg]; exact h
  exact loop 6 0 s_fuel (by omega) (by unfold s_fuel; omega)
theorem q_gk9 {m : Nat → Int32} {R : Nat} (i : Nat) (hm : m 2 = nI R) (hR : R ≤ 6) : f_X9_kindsOfOne m (nI i) = some (nI (msk (gkN m i R) 6)) := by
  have loop : ∀ (d v fu : Nat), v + d = 6 → d < fu → f_X9_kindsOfOne_b4 m fu (nI i) (nI (msk (gkN m i R) v)) (nI v) = some (nI (msk (gkN m i R) 6)) := by
    intro d
    induction d with
    | zero =>
      intro v fu h1 h2
      obtain ⟨fu, rfl⟩ : ∃ k, fu = k + 1 := ⟨fu - 1, by omega⟩
      rw [f_X9_kindsOfOne_b4, show v = 6 by omega, if_pos (show (6 : Int32) ≤ nI 6 by decide)]
    | succ d ih =>
      intro v fu h1 h2
      obtain ⟨fu, rfl⟩ : ∃ k, fu = k + 1 := ⟨fu - 1, by omega⟩
      have h := ih (v + 1) fu (by omega) (by omega)
      have h9 := q_fits9N i v (nI (msk (gkN m i R) v)) (f_X9_kindsOfOne_b4 m fu) hm hR R 0 s_fuel (by omega) (by unfold s_fuel; omega)
      rw [f_X9_kindsOfOne_b4, if_neg (show ¬ (6 : Int32) ≤ nI v from nI_ge (b := 6) (by omega) (by decide))]
      refine h9.trans ?_
      rw [show (nI (msk (gkN m i R) v) ||| (if allb (okN m i v) R then (1 : Int32) <<< (nI v &&& 31) else 0)) = nI (msk (gkN m i R) (v + 1)) from msk_step (g := gkN m i R) (by omega)]
      exact h
  exact loop 6 0 s_fuel (by omega) (by unfold s_fuel; omega)
/-! marks -/
def okK (m : Nat → Int32) (kind j : Nat) : Bool := decide (ps (nI kind) (m (88 + 3 * j)) (m (88 + 3 * j + 1)) = m (88 + 3 * j + 2))
theorem q_fitsK {kc m : Nat → Int32} {kn : Int32} {R : Nat} (kind : Nat) (hN : GK kc m) (hr : kn = nI R) (hm : m 3 = nI R) (hR : R ≤ 6) : ∀ (d j fu : Nat), j + d = R → d < fu → allb (okK m kind) j = true → f_X7_fitsMarks_b2 18 (3 : Int32) kc kn fu (nI kind) (nI j) = some (bi (allb (okK m kind) R)) := by
  intro d
  induction d with
  | zero =>
    intro j fu h1 h2 h3
    obtain ⟨fu, rfl⟩ : ∃ k, fu = k + 1 := ⟨fu - 1, by omega⟩
    have e : j = R := by omega
    subst e
    rw [f_X7_fitsMarks_b2, hr, if_pos (nI_le (by omega) (by omega)), h3] <;> rfl
  | succ d ih =>
    intro j fu h1 h2 h3
    obtain ⟨fu, rfl⟩ : ∃ k, fu = k + 1 := ⟨fu - 1, by omega⟩
    obtain ⟨g, -⟩ := hN j (by rw [hm, nI_toInt (by omega)]; omega)
    have c : ∀ q : Nat, q < 3 → f_X5_cell 18 (3 : Int32) kc kn (nI j) (nI q) = some (m (88 + 3 * j + q)) := fun q hq => by
      rw [q_cell (N := 18) (W := 3) (w := 3) (R := R) (i := j) (j := q) kc rfl hr rfl rfl (by omega) hq (by omega) (by decide) (by omega) (by decide), Nat.mul_comm j 3, g q hq, Nat.add_assoc]
    have c0 : f_X5_cell 18 (3 : Int32) kc kn (nI j) (0 : Int32) = some (m (88 + 3 * j)) := c 0 (by decide)
    have c1 : f_X5_cell 18 (3 : Int32) kc kn (nI j) (1 : Int32) = some (m (88 + 3 * j + 1)) := c 1 (by decide)
    have c2 : f_X5_cell 18 (3 : Int32) kc kn (nI j) (2 : Int32) = some (m (88 + 3 * j + 2)) := c 2 (by decide)
    rw [f_X7_fitsMarks_b2, if_neg (by rw [hr]; exact nI_ge (by omega) (by omega)), c0, b_some, c1, b_some, q_ps, b_some, c2, b_some, show nI j + (1 : Int32) = nI (j + 1) from na_add j 1]
    by_cases w : ps (nI kind) (m (88 + 3 * j)) (m (88 + 3 * j + 1)) = m (88 + 3 * j + 2)
    · rw [if_pos w]
      exact ih (j + 1) fu (by omega) (by omega) (by rw [allb, h3, okK, decide_eq_true w] <;> rfl)
    · have ho : okK m kind j = false := decide_eq_false w
      rw [if_neg w, allb_no ho R (by omega)] <;> rfl
theorem q_fits9K {m : Nat → Int32} {R : Nat} (kind : Nat) (x : Int32) (k : Int32 → Int32 → Option Int32) (hm : m 3 = nI R) (hR : R ≤ 6) : ∀ (d j fu : Nat), j + d = R → d < fu → f_X9_kindsOfLord_b15 k m fu x (nI kind) (bi (allb (okK m kind) j)) (nI j) = k (x ||| (if allb (okK m kind) R then (1 : Int32) <<< (nI kind &&& 31) else 0)) (nI (kind + 1)) := by
  intro d
  induction d with
  | zero =>
    intro j fu h1 h2
    obtain ⟨fu, rfl⟩ : ∃ k, fu = k + 1 := ⟨fu - 1, by omega⟩
    have e : j = R := by omega
    subst e
    rw [f_X9_kindsOfLord_b15, show Int32.toNatClampNeg 3 = 3 from rfl, hm, if_pos (nI_le (by omega) (by omega))]
    unfold f_X9_kindsOfLord_b95
    rw [show nI kind + (1 : Int32) = nI (kind + 1) from na_add kind 1]
    cases allb (okK m kind) j <;> rfl
  | succ d ih =>
    intro j fu h1 h2
    obtain ⟨fu, rfl⟩ : ∃ k, fu = k + 1 := ⟨fu - 1, by omega⟩
    have h := ih (j + 1) fu (by omega) (by omega)
    rw [allb] at h
    rw [f_X9_kindsOfLord_b15, show Int32.toNatClampNeg 3 = 3 from rfl, hm, if_neg (nI_ge (by omega) (by omega))]
    unfold f_X9_kindsOfLord_b75 f_X9_kindsOfLord_b76
    rw [show nI j + (1 : Int32) = nI (j + 1) from na_add j 1]
    cases hj : allb (okK m kind) j with
    | false =>
      rw [hj, Bool.false_and] at h
      rw [if_pos bi_f]; exact h
    | true =>
      rw [hj, Bool.true_and] at h
      rw [if_neg bi_t, show (3 : Int32) * nI j = nI (3 * j) from na_mul 3 j, show (88 : Int32) + nI (3 * j) = nI (88 + 3 * j) from na_add 88 (3 * j), show nI (88 + 3 * j) + (1 : Int32) = nI (88 + 3 * j + 1) from na_add _ 1, show nI (88 + 3 * j) + (2 : Int32) = nI (88 + 3 * j + 2) from na_add _ 2]
      rw [if_pos (nI_in (by omega) (by decide)), if_pos (nI_in (by omega) (by decide)), nI_clamp (by omega), nI_clamp (by omega), q_ps9, b_some, if_pos (nI_in (by omega) (by decide)), nI_clamp (by omega)]
      by_cases w : ps (nI kind) (m (88 + 3 * j)) (m (88 + 3 * j + 1)) = m (88 + 3 * j + 2)
      · have ho : okK m kind j = true := decide_eq_true w
        rw [ho] at h
        rw [if_pos w]; exact h
      · have ho : okK m kind j = false := decide_eq_false w
        rw [ho] at h
        rw [if_neg w]; exact h
def gkK (m : Nat → Int32) (R : Nat) : Nat → Bool := fun kind => allb (okK m kind) R
theorem q_hk8 {kc m : Nat → Int32} {kn : Int32} {R : Nat} (hN : GK kc m) (hr : kn = nI R) (hm : m 3 = nI R) (hR : R ≤ 6) : f_X7_hostKinds kc kn = some (nI (msk (gkK m R) 6)) := by
  have loop : ∀ (d v fu : Nat), v + d = 6 → d < fu → f_X7_hostKinds_b4 kc kn fu (nI (msk (gkK m R) v)) (nI v) = some (nI (msk (gkK m R) 6)) := by
    intro d
    induction d with
    | zero =>
      intro v fu h1 h2
      obtain ⟨fu, rfl⟩ : ∃ k, fu = k + 1 := ⟨fu - 1, by omega⟩
      rw [f_X7_hostKinds_b4, show v = 6 by omega, if_pos (show (6 : Int32) ≤ nI 6 by decide)]
    | succ d ih =>
      intro v fu h1 h2
      obtain ⟨fu, rfl⟩ : ∃ k, fu = k + 1 := ⟨fu - 1, by omega⟩
      have h := ih (v + 1) fu (by omega) (by omega)
      have hf : f_X7_fitsMarks 18 (3 : Int32) kc kn (nI v) = some (bi (gkK m R v)) := q_fitsK v hN hr hm hR R 0 s_fuel (by omega) (by unfold s_fuel; omega) rfl
      rw [f_X7_hostKinds_b4, if_neg (show ¬ (6 : Int32) ≤ nI v from nI_ge (b := 6) (by omega) (by decide)), hf, b_some]
      unfold f_X7_hostKinds_b28
      rw [show nI v + (1 : Int32) = nI (v + 1) from na_add v 1]
      cases hg : gkK m R v with
      | false => rw [if_pos bi_f, msk_f hg]; exact h
      | true => rw [if_neg bi_t, msk_t (by omega) hg]; exact h
  exact loop 6 0 s_fuel (by omega) (by unfold s_fuel; omega)
theorem q_hk9 {m : Nat → Int32} {R : Nat} (hm : m 3 = nI R) (hR : R ≤ 6) : f_X9_kindsOfLord m = some (nI (msk (gkK m R) 6)) := by
  have loop : ∀ (d v fu : Nat), v + d = 6 → d < fu → f_X9_kindsOfLord_b4 m fu (nI (msk (gkK m R) v)) (nI v) = some (nI (msk (gkK m R) 6)) := by
    intro d
    induction d with
    | zero =>
      intro v fu h1 h2
      obtain ⟨fu, rfl⟩ : ∃ k, fu = k + 1 := ⟨fu - 1, by omega⟩
      rw [f_X9_kindsOfLord_b4, show v = 6 by omega, if_pos (show (6 : Int32) ≤ nI 6 by decide)]
    | succ d ih =>
      intro v fu h1 h2
      obtain ⟨fu, rfl⟩ : ∃ k, fu = k + 1 := ⟨fu - 1, by omega⟩
      have h := ih (v + 1) fu (by omega) (by omega)
      have h9 := q_fits9K v (nI (msk (gkK m R) v)) (f_X9_kindsOfLord_b4 m fu) hm hR R 0 s_fuel (by omega) (by unfold s_fuel; omega)
      rw [f_X9_kindsOfLord_b4, if_neg (show ¬ (6 : Int32) ≤ nI v from nI_ge (b := 6) (by omega) (by decide))]
      refine h9.trans ?_
      rw [show (nI (msk (gkK m R) v) ||| (if allb (okK m v) R then (1 : Int32) <<< (nI v &&& 31) else 0)) = nI (msk (gkK m R) (v + 1)) from msk_step (g := gkK m R) (by omega)]
      exact h
  exact loop 6 0 s_fuel (by omega) (by unfold s_fuel; omega)
