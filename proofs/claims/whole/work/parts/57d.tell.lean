/-! the first of the smallest -/
def sel (F0 : Int32) (f c : Nat → Int32) : Nat → Int32 × Int32
  | 0 => (-1, F0)
  | q + 1 => if (sel F0 f c q).2 ≤ f q then sel F0 f c q else (c q, f q)
theorem sel_one {F0 : Int32} {f c : Nat → Int32} (h : f 0 < F0) : sel F0 f c 1 = (c 0, f 0) := by
  rw [sel, if_neg]
  show ¬ F0 ≤ f 0
  rw [p_le]; rw [p_lt] at h; omega
theorem sel_eq1 {F0 F1 : Int32} {f c : Nat → Int32} (h0 : f 0 < F0) (h1 : f 0 < F1) : ∀ q : Nat, sel F0 f c (q + 1) = sel F1 f c (q + 1)
  | 0 => by rw [sel_one h0, sel_one h1]
  | q + 1 => by
    show (if (sel F0 f c (q + 1)).2 ≤ f (q + 1) then sel F0 f c (q + 1) else (c (q + 1), f (q + 1))) = (if (sel F1 f c (q + 1)).2 ≤ f (q + 1) then sel F1 f c (q + 1) else (c (q + 1), f (q + 1)))
    rw [sel_eq1 h0 h1 q]
theorem sel_eq {F0 F1 : Int32} {f c : Nat → Int32} (h0 : f 0 < F0) (h1 : f 0 < F1) (q : Nat) (hq : 0 < q) : sel F0 f c q = sel F1 f c q := by
  obtain ⟨z, rfl⟩ : ∃ z, q = z + 1 := ⟨q - 1, by omega⟩
  exact sel_eq1 h0 h1 z
/-- the same, passing over 0 -/
def selz (F0 : Int32) (T : Nat → Nat) (c : Nat → Int32) : Nat → Int32 × Int32
  | 0 => (-1, F0)
  | q + 1 => if T q = 0 then selz F0 T c q else if (selz F0 T c q).2 ≤ nI (T q) then selz F0 T c q else (c q, nI (T q))
theorem selz_pos {F0 : Int32} {T : Nat → Nat} {c : Nat → Int32} (h : ∀ q, T q ≠ 0) : ∀ q : Nat, selz F0 T c q = sel F0 (fun q => nI (T q)) c q
  | 0 => rfl
  | q + 1 => by rw [selz, sel, if_neg (h q), selz_pos h q]
theorem selz_zero {F0 : Int32} {T : Nat → Nat} {c : Nat → Int32} (h : ∀ q, T q = 0) : ∀ q : Nat, selz F0 T c q = (-1, F0)
  | 0 => rfl
  | q + 1 => by rw [selz, if_pos (h q), selz_zero h q]
def cod (W B q : Nat) : Int32 := nI (W * (q / B) + q % B)
theorem cntb_split (f h : Nat → Bool) : ∀ n : Nat, cntb (fun v => f v && h v) n + cntb (fun v => f v && !h v) n = cntb f n
  | 0 => rfl
  | n + 1 => by
    have := cntb_split f h n
    rw [cntb, cntb, cntb]
    cases f n <;> cases h n <;> simp only [Bool.and_true, Bool.and_false, Bool.not_true, Bool.not_false, if_true, if_false, Bool.false_eq_true] <;> omega
theorem q_bits31 (g : Nat → Bool) : f_J6_bitCount_0f7a4 (nI (msk g 31)) = some (nI (cntb g 31)) := by
  rw [q_bitCount (msk_lt g 31), swar_msk]
def letA (m : Nat → Int32) (i : Nat) (g : Nat → Bool) (t w : Nat) : Nat → Bool := fun v => g v && decide (inb m i (nI w) (nI v) (nI t) = 1)
def letB (m : Nat → Int32) (i : Nat) (g : Nat → Bool) (t w : Nat) : Nat → Bool := fun v => g v && !decide (inb m i (nI w) (nI v) (nI t) = 1)
def tT (m : Nat → Int32) (i : Nat) (g : Nat → Bool) (q : Nat) : Nat := if cntb (letA m i g (q / 10) (q % 10)) 31 ≤ cntb (letB m i g (q / 10) (q % 10)) 31 then cntb (letB m i g (q / 10) (q % 10)) 31 else cntb (letA m i g (q / 10) (q % 10)) 31
theorem letAB (m : Nat → Int32) (i : Nat) (g : Nat → Bool) (t w : Nat) : cntb (letA m i g t w) 31 + cntb (letB m i g t w) 31 = cntb g 31 := cntb_split g _ 31
section QT
variable {wets gc sc m : Nat → Int32} {gn sn host : Int32} {n i R : Nat}
theorem q_howManyLet {t : Nat} (g : Nat → Bool) (hW : GW wets m) (hG : GG gc m) (hg : gn = nI n) (hm : m 0 = nI n) (hn : n ≤ 7) (hi : i < n) (hh : host = m 23) (w : Nat) (ht : t < 2 ^ 31) : f_X7_howManyLetIn wets gc gn host (nI i) (nI w) (nI t) (nI (msk g 31)) = some (nI (cntb (letA m i g t w) 31)) := by
  have loop : ∀ (d v fu : Nat), v + d = 31 → d < fu → f_X7_howManyLetIn_b6 wets gc gn host fu (nI i) (nI w) (nI t) (nI (msk g 31)) (nI (cntb (letA m i g t w) v)) (nI v) = some (nI (cntb (letA m i g t w) 31)) := by
    intro d
    induction d with
    | zero =>
      intro v fu h1 h2
      obtain ⟨fu, rfl⟩ : ∃ k, fu = k + 1 := ⟨fu - 1, by omega⟩
      rw [f_X7_howManyLetIn_b6, show v = 31 by omega, if_pos (show (30 : Int32) < nI 31 by decide)]
    | succ d ih =>
      intro v fu h1 h2
      obtain ⟨fu, rfl⟩ : ∃ k, fu = k + 1 := ⟨fu - 1, by omega⟩
      have h := ih (v + 1) fu (by omega) (by omega)
      rw [f_X7_howManyLetIn_b6, if_neg (show ¬ (30 : Int32) < nI v from nI_nlt (b := v) (a := 30) (by omega) (by omega))]
      unfold f_X7_howManyLetIn_b41
      rw [show nI v + (1 : Int32) = nI (v + 1) from na_add v 1]
      cases hv : g v with
      | false =>
        rw [if_neg (fun q => by rw [(q_bitc (by omega)).mp q] at hv; exact absurd hv (by decide))]
        rw [cntb_f (show letA m i g t w v = false by unfold letA; rw [hv, Bool.false_and])] at h
        exact h
      | true =>
        rw [if_pos ((q_bitc (by omega)).mpr hv), q_letIn hW hG hg hm hn hi hh _ _ ht, b_some]
        rcases inb01 m i (nI w) (nI v) (nI t) with z | z
        · rw [if_pos z]
          rw [cntb_f (show letA m i g t w v = false by unfold letA; rw [z]; exact Bool.and_false _)] at h
          exact h
        · rw [if_neg (by rw [z]; decide), show nI (cntb (letA m i g t w) v) + (1 : Int32) = nI (cntb (letA m i g t w) v + 1) from na_add _ 1]
          rw [cntb_t (show letA m i g t w v = true by unfold letA; rw [z, hv] <;> rfl)] at h
          exact h
  exact loop 31 0 s_fuel (by omega) (by unfold s_fuel; omega)
theorem q_max {a b : Nat} (ha : a ≤ 31) (hb : b ≤ 31) : (if nI a < nI (a + b) - nI a then nI (a + b) - nI a else nI a) = nI (if a ≤ b then b else a) := by
  rw [na_sub (by omega), show a + b - a = b by omega]
  by_cases h : a < b
  · rw [if_pos (nI_lt h (by omega)), if_pos (by omega)]
  · rw [if_neg (nI_nlt (by omega) (by omega))]
    by_cases e : a ≤ b
    · rw [if_pos e, show a = b by omega]
    · rw [if_neg e]
theorem q_best42 {F0 : Int32} {t : Nat} (g : Nat → Bool) (k : Int32 → Int32 → Int32 → Int32 → Int32 → Int32 → Option Int32) (hW : GW wets m) (hG : GG gc m) (hg : gn = nI n) (hm : m 0 = nI n) (hn : n ≤ 7) (hi : i < n) (hh : host = m 23) (ht : t < 1000) : ∀ (d w fu : Nat), w + d = 10 → d < fu → f_X7_bestNight_b42 k wets gc gn sc sn host fu (nI i) (nI (msk g 31)) (nI (cntb g 31)) (sel F0 (fun q => nI (tT m i g q)) (cod 10 10) (10 * t + w)).1 (sel F0 (fun q => nI (tT m i g q)) (cod 10 10) (10 * t + w)).2 (nI t) (nI w) = k (nI i) (nI (msk g 31)) (nI (cntb g 31)) (sel F0 (fun q => nI (tT m i g q)) (cod 10 10) (10 * (t + 1))).1 (sel F0 (fun q => nI (tT m i g q)) (cod 10 10) (10 * (t + 1))).2 (nI (t + 1)) := by
  intro d
  induction d with
  | zero =>
    intro w fu h1 h2
    obtain ⟨fu, rfl⟩ : ∃ k, fu = k + 1 := ⟨fu - 1, by omega⟩
    rw [f_X7_bestNight_b42, show w = 10 by omega, if_pos (show (9 : Int32) < nI 10 by decide), show nI t + (1 : Int32) = nI (t + 1) from na_add t 1] <;> rfl
  | succ d ih =>
    intro w fu h1 h2
    obtain ⟨fu, rfl⟩ : ∃ k, fu = k + 1 := ⟨fu - 1, by omega⟩
    have h := ih (w + 1) fu (by omega) (by omega)
    rw [← Nat.add_assoc, sel] at h
    have e1 : (10 * t + w) / 10 = t := by omega
    have e2 : (10 * t + w) % 10 = w := by omega
    have hT : nI (tT m i g (10 * t + w)) = (if nI (cntb (letA m i g t w) 31) < nI (cntb g 31) - nI (cntb (letA m i g t w) 31) then nI (cntb g 31) - nI (cntb (letA m i g t w) 31) else nI (cntb (letA m i g t w) 31)) := by
      unfold tT; rw [e1, e2, ← letAB m i g t w, q_max (cntb_le _ _) (cntb_le _ _)]
    have hc : cod 10 10 (10 * t + w) = ((10 : Int32) * nI t) + nI w := by
      unfold cod; rw [e1, e2, show (10 : Int32) * nI t = nI (10 * t) from na_mul 10 t, na_add]
    rw [f_X7_bestNight_b42, if_neg (show ¬ (9 : Int32) < nI w from nI_nlt (b := w) (a := 9) (by omega) (by omega)), q_howManyLet g hW hG hg hm hn hi hh w (by omega), b_some, ← hT, ← hc]
    unfold f_X7_bestNight_b95
    rw [show nI w + (1 : Int32) = nI (w + 1) from na_add w 1]
    by_cases z : (sel F0 (fun q => nI (tT m i g q)) (cod 10 10) (10 * t + w)).2 ≤ nI (tT m i g (10 * t + w))
    · rw [if_pos z] at h ⊢; exact h
    · rw [if_neg z] at h ⊢; exact h
theorem q_best32 {F0 : Int32} (g : Nat → Bool) (hW : GW wets m) (hG : GG gc m) (hg : gn = nI n) (hm : m 0 = nI n) (hn : n ≤ 7) (hi : i < n) (hh : host = m 23) : ∀ (d t fu : Nat), t + d = 14 → d < fu → f_X7_bestNight_b32 wets gc gn sc sn host fu (nI i) (nI (msk g 31)) (nI (cntb g 31)) (sel F0 (fun q => nI (tT m i g q)) (cod 10 10) (10 * t)).1 (sel F0 (fun q => nI (tT m i g q)) (cod 10 10) (10 * t)).2 (nI t) = some (sel F0 (fun q => nI (tT m i g q)) (cod 10 10) 140).1 := by
  intro d
  induction d with
  | zero =>
    intro t fu h1 h2
    obtain ⟨fu, rfl⟩ : ∃ k, fu = k + 1 := ⟨fu - 1, by omega⟩
    rw [f_X7_bestNight_b32, show t = 14 by omega, if_pos (show (14 : Int32) ≤ nI 14 by decide)]
  | succ d ih =>
    intro t fu h1 h2
    obtain ⟨fu, rfl⟩ : ∃ k, fu = k + 1 := ⟨fu - 1, by omega⟩
    rw [f_X7_bestNight_b32, if_neg (show ¬ (14 : Int32) ≤ nI t from nI_ge (b := 14) (by omega) (by decide))]
    exact (q_best42 (F0 := F0) g (f_X7_bestNight_b32 wets gc gn sc sn host fu) hW hG hg hm hn hi hh (by omega) 10 0 s_fuel (by omega) (by unfold s_fuel; omega)).trans (ih (t + 1) fu (by omega) (by omega))
/-- the reference: one night and word -/
theorem q_tell49 {r : Nat → Int32} {t w : Nat} {l2 l3 : Int32} (k23 : (Nat → Int32) → Int32 → Int32 → Int32 → Int32 → Option (Int32 × (Nat → Int32))) (k33 : (Nat → Int32) → Int32 → Int32 → Int32 → Int32 → Int32 → Option (Int32 × (Nat → Int32))) (hS : GS sc m) (hi : i < 7) (hm : m 1 = nI R) (hR : R ≤ 5) (ht : t < 1000) : ∀ (d v fu : Nat), v + d = 31 → d < fu → f_X9_tell_b49 k23 k33 m fu r (nI i) l2 l3 (nI t) (nI w) (nI (cntb (letA m i (vis m i R) t w) v)) (nI (cntb (letB m i (vis m i R) t w) v)) (nI v) = f_X9_tell_b139 k23 k33 m r (nI i) l2 l3 (nI t) (nI w) (nI (if cntb (letA m i (vis m i R) t w) 31 ≤ cntb (letB m i (vis m i R) t w) 31 then cntb (letB m i (vis m i R) t w) 31 else cntb (letA m i (vis m i R) t w) 31)) := by
  intro d
  induction d with
  | zero =>
    intro v fu h1 h2
    obtain ⟨fu, rfl⟩ : ∃ k, fu = k + 1 := ⟨fu - 1, by omega⟩
    have ha := cntb_le (letA m i (vis m i R) t w) 31
    have hb := cntb_le (letB m i (vis m i R) t w) 31
    rw [f_X9_tell_b49, show v = 31 by omega, if_pos (show (30 : Int32) < nI 31 by decide)]
    by_cases z : cntb (letA m i (vis m i R) t w) 31 ≤ cntb (letB m i (vis m i R) t w) 31
    · rw [if_pos (nI_le z (by omega)), if_pos z]
    · rw [if_neg (nI_ge (by omega) (by omega)), if_neg z]
  | succ d ih =>
    intro v fu h1 h2
    obtain ⟨fu, rfl⟩ : ∃ k, fu = k + 1 := ⟨fu - 1, by omega⟩
    have h := ih (v + 1) fu (by omega) (by omega)
    have ho : f_X9_isOften m (nI i) (nI v) = some (bi (vis m i R v)) := q_often9 hS hi v hm hR
    rw [f_X9_tell_b49, if_neg (show ¬ (30 : Int32) < nI v from nI_nlt (b := v) (a := 30) (by omega) (by omega)), q_inBy9 hi _ _ (by omega), b_some, ho, b_some]
    unfold f_X9_tell_b90 f_X9_tell_b91
    rw [ho, b_some]
    unfold f_X9_tell_b115 f_X9_tell_b116
    rw [show nI v + (1 : Int32) = nI (v + 1) from na_add v 1, Int32.add_zero, Int32.add_zero]
    cases hv : vis m i R v with
    | false =>
      rw [cntb_f (show letA m i (vis m i R) t w v = false by unfold letA; rw [hv, Bool.false_and]), cntb_f (show letB m i (vis m i R) t w v = false by unfold letB; rw [hv, Bool.false_and])] at h
      rw [if_pos bi_f, if_pos bi_f]; exact h
    | true =>
      rcases inb01 m i (nI w) (nI v) (nI t) with z | z
      · rw [cntb_f (show letA m i (vis m i R) t w v = false by unfold letA; rw [z]; exact Bool.and_false _), cntb_t (show letB m i (vis m i R) t w v = true by unfold letB; rw [z, hv] <;> rfl)] at h
        rw [if_neg bi_t, if_neg bi_t, z, if_pos rfl, if_pos rfl, show nI (cntb (letB m i (vis m i R) t w) v) + (1 : Int32) = nI (cntb (letB m i (vis m i R) t w) v + 1) from na_add _ 1]
        exact h
      · rw [cntb_t (show letA m i (vis m i R) t w v = true by unfold letA; rw [z, hv] <;> rfl), cntb_f (show letB m i (vis m i R) t w v = false by unfold letB; rw [z]; exact Bool.and_false _)] at h
        rw [if_neg bi_t, if_neg bi_t, z, if_neg no10, if_neg no10, show nI (cntb (letA m i (vis m i R) t w) v) + (1 : Int32) = nI (cntb (letA m i (vis m i R) t w) v + 1) from na_add _ 1]
        exact h
theorem q_tell139 {r : Nat → Int32} {t w T : Nat} {l2 l3 : Int32} (k23 : (Nat → Int32) → Int32 → Int32 → Int32 → Int32 → Option (Int32 × (Nat → Int32))) (k33 : (Nat → Int32) → Int32 → Int32 → Int32 → Int32 → Int32 → Option (Int32 × (Nat → Int32))) (hT : T ≤ 31) : f_X9_tell_b139 k23 k33 m r (nI i) l2 l3 (nI t) (nI w) (nI T) = if T = 0 then k33 r (nI i) l2 l3 (nI t) (nI (w + 1)) else if l3 ≤ nI T then k33 r (nI i) l2 l3 (nI t) (nI (w + 1)) else k33 r (nI i) (nI (10 * t + w)) (nI T) (nI t) (nI (w + 1)) := by
  unfold f_X9_tell_b139 f_X9_tell_b163 f_X9_tell_b164 f_X9_tell_b181 f_X9_tell_b182
  rw [show nI w + (1 : Int32) = nI (w + 1) from na_add w 1, show (10 : Int32) * nI t = nI (10 * t) from na_mul 10 t, na_add]
  by_cases z : T = 0
  · subst z; rw [if_pos (show nI 0 ≤ (0 : Int32) by decide), if_pos (show nI 0 ≤ (0 : Int32) by decide), if_pos rfl]
  · rw [if_neg (nI_nle (by omega) (by omega)), if_neg (nI_nle (by omega) (by omega)), if_neg (nI_nle (by omega) (by omega)), if_neg z]
    by_cases y : l3 ≤ nI T
    · rw [if_pos y, if_pos y, if_pos y]
    · rw [if_neg y, if_neg y, if_neg y]
theorem tT_le (m : Nat → Int32) (i : Nat) (g : Nat → Bool) (q : Nat) : tT m i g q ≤ 31 := by
  unfold tT
  split
  · exact cntb_le _ _
  · exact cntb_le _ _
theorem q_tell33 {r : Nat → Int32} {t : Nat} {F0 : Int32} (k23 : (Nat → Int32) → Int32 → Int32 → Int32 → Int32 → Option (Int32 × (Nat → Int32))) (hS : GS sc m) (hi : i < 7) (hm : m 1 = nI R) (hR : R ≤ 5) (ht : t < 1000) : ∀ (d w fu : Nat), w + d = 10 → d < fu → f_X9_tell_b33 k23 m fu r (nI i) (selz F0 (tT m i (vis m i R)) (cod 10 10) (10 * t + w)).1 (selz F0 (tT m i (vis m i R)) (cod 10 10) (10 * t + w)).2 (nI t) (nI w) = k23 r (nI i) (selz F0 (tT m i (vis m i R)) (cod 10 10) (10 * (t + 1))).1 (selz F0 (tT m i (vis m i R)) (cod 10 10) (10 * (t + 1))).2 (nI (t + 1)) := by
  intro d
  induction d with
  | zero =>
    intro w fu h1 h2
    obtain ⟨fu, rfl⟩ : ∃ k, fu = k + 1 := ⟨fu - 1, by omega⟩
    rw [f_X9_tell_b33, show w = 10 by omega, if_pos (show (10 : Int32) ≤ nI 10 by decide), show nI t + (1 : Int32) = nI (t + 1) from na_add t 1] <;> rfl
  | succ d ih =>
    intro w fu h1 h2
    obtain ⟨fu, rfl⟩ : ∃ k, fu = k + 1 := ⟨fu - 1, by omega⟩
    have h := ih (w + 1) fu (by omega) (by omega)
    rw [← Nat.add_assoc, selz] at h
    have e1 : (10 * t + w) / 10 = t := by omega
    have e2 : (10 * t + w) % 10 = w := by omega
    have hT : tT m i (vis m i R) (10 * t + w) = (if cntb (letA m i (vis m i R) t w) 31 ≤ cntb (letB m i (vis m i R) t w) 31 then cntb (letB m i (vis m i R) t w) 31 else cntb (letA m i (vis m i R) t w) 31) := by
      unfold tT; rw [e1, e2]
    have hc : cod 10 10 (10 * t + w) = nI (10 * t + w) := by
      unfold cod; rw [e1, e2]
    have hl := tT_le m i (vis m i R) (10 * t + w)
    rw [hc] at h
    rw [f_X9_tell_b33, if_neg (show ¬ (10 : Int32) ≤ nI w from nI_ge (b := 10) (by omega) (by decide))]
    refine (q_tell49 (sc := sc) (w := w) k23 (f_X9_tell_b33 k23 m fu) hS hi hm hR ht 31 0 s_fuel (by omega) (by unfold s_fuel; omega)).trans ?_
    rw [← hT, q_tell139 k23 _ hl]
    by_cases z : tT m i (vis m i R) (10 * t + w) = 0
    · rw [if_pos z] at h ⊢; exact h
    · rw [if_neg z] at h ⊢
      by_cases y : (selz F0 (tT m i (vis m i R)) (cod 10 10) (10 * t + w)).2 ≤ nI (tT m i (vis m i R) (10 * t + w))
      · rw [if_pos y] at h ⊢; exact h
      · rw [if_neg y] at h ⊢; exact h
theorem q_tell23 {r : Nat → Int32} {F0 : Int32} (hS : GS sc m) (hi : i < 7) (hm : m 1 = nI R) (hR : R ≤ 5) : ∀ (d t fu : Nat), t + d = 14 → d < fu → f_X9_tell_b23 m fu r (nI i) (selz F0 (tT m i (vis m i R)) (cod 10 10) (10 * t)).1 (selz F0 (tT m i (vis m i R)) (cod 10 10) (10 * t)).2 (nI t) = some ((selz F0 (tT m i (vis m i R)) (cod 10 10) 140).1, r) := by
  intro d
  induction d with
  | zero =>
    intro t fu h1 h2
    obtain ⟨fu, rfl⟩ : ∃ k, fu = k + 1 := ⟨fu - 1, by omega⟩
    rw [f_X9_tell_b23, show t = 14 by omega, if_pos (show (14 : Int32) ≤ nI 14 by decide)]
  | succ d ih =>
    intro t fu h1 h2
    obtain ⟨fu, rfl⟩ : ∃ k, fu = k + 1 := ⟨fu - 1, by omega⟩
    rw [f_X9_tell_b23, if_neg (show ¬ (14 : Int32) ≤ nI t from nI_ge (b := 14) (by omega) (by decide))]
    exact (q_tell33 (F0 := F0) (sc := sc) (f_X9_tell_b23 m fu) hS hi hm hR (by omega) 10 0 s_fuel (by omega) (by unfold s_fuel; omega)).trans (ih (t + 1) fu (by omega) (by omega))
theorem tT_pos {m : Nat → Int32} {i : Nat} {g : Nat → Bool} (h : cntb g 31 ≠ 0) (q : Nat) : tT m i g q ≠ 0 := by
  have e := letAB m i g (q / 10) (q % 10)
  unfold tT
  split <;> omega
theorem tT_zero {m : Nat → Int32} {i : Nat} {g : Nat → Bool} (h : cntb g 31 = 0) (q : Nat) : tT m i g q = 0 := by
  have e := letAB m i g (q / 10) (q % 10)
  unfold tT
  split <;> omega
theorem tT_all {m : Nat → Int32} {i : Nat} {g : Nat → Bool} (q : Nat) : tT m i g q ≤ cntb g 31 := by
  have e := letAB m i g (q / 10) (q % 10)
  unfold tT
  split <;> omega
theorem q_tellBoth {r : Nat → Int32} (hS : GS sc m) (hW : GW wets m) (hG : GG gc m) (hg : gn = nI n) (hm0 : m 0 = nI n) (hn : n ≤ 7) (hi : i < n) (hh : host = m 23) (hr : sn = nI R) (hm : m 1 = nI R) (hR : R ≤ 5) : ∃ v : Int32, f_X7_bestNight wets gc gn sc sn host (nI i) = some v ∧ f_X9_tell_b23 m s_fuel r (nI i) (-1) (1000000 : Int32) (0 : Int32) = some (v, r) := by
  have h9 := q_tell23 (r := r) (F0 := (1000000 : Int32)) (i := i) hS (by omega) hm hR 14 0 s_fuel (by omega) (by unfold s_fuel; omega)
  have hle := cntb_le (vis m i R) 31
  unfold f_X7_bestNight
  rw [q_vis8 hS hW hG hg hm0 hn hi hh hr hm hR, b_some, q_bits31, b_some]
  by_cases z : cntb (vis m i R) 31 = 0
  · refine ⟨-1, ?_, ?_⟩
    · rw [if_pos (show nI (cntb (vis m i R) 31) = 0 by rw [z] <;> rfl)]
    · rw [selz_zero (tT_zero z) 140] at h9; exact h9
  · refine ⟨(sel (nI (cntb (vis m i R) 31) + 1) (fun q => nI (tT m i (vis m i R) q)) (cod 10 10) 140).1, ?_, ?_⟩
    · rw [if_neg (fun q => by exact z ((nI_eq (by omega) (by decide)).mp (show nI (cntb (vis m i R) 31) = nI 0 from q)))]
      exact q_best32 (F0 := nI (cntb (vis m i R) 31) + 1) (vis m i R) hW hG hg hm0 hn hi hh 14 0 s_fuel (by omega) (by unfold s_fuel; omega)
    · rw [selz_pos (tT_pos z) 140] at h9
      have t0 := tT_all (m := m) (i := i) (g := vis m i R) 0
      have e := sel_eq (F0 := nI (cntb (vis m i R) 31) + 1) (F1 := (1000000 : Int32)) (f := fun q => nI (tT m i (vis m i R) q)) (c := cod 10 10) (by rw [show nI (cntb (vis m i R) 31) + 1 = nI (cntb (vis m i R) 31 + 1) from na_add _ 1]; exact nI_lt (by omega) (by omega)) (show nI (tT m i (vis m i R) 0) < nI 1000000 from nI_lt (by omega) (by decide)) 140 (by decide)
      rw [← e] at h9
      exact h9
end QT
