/-- so many places from a on hold what stood from b on -/
def cp (f g : Nat → Int32) (a b n : Nat) : Nat → Int32 := fun k => if a ≤ k ∧ k < a + n then g (b + (k - a)) else f k
theorem cp_out {f g : Nat → Int32} {a b n k : Nat} (h : k < a ∨ a + n ≤ k) : cp f g a b n k = f k := if_neg (by omega)
theorem cp_in {f g : Nat → Int32} {a b n k : Nat} (h : k < n) : cp f g a b n (a + k) = g (b + k) := by
  unfold cp; rw [if_pos (by omega), Nat.add_sub_cancel_left]
theorem cp_step (f g : Nat → Int32) (a b n : Nat) : upd (cp f g a b n) (a + n) (g (b + n)) = cp f g a b (n + 1) := by
  funext k
  by_cases h : k = a + n
  · subst h; rw [up_same, cp_in (by omega)]
  · rw [up_ne _ _ h]
    by_cases h2 : a ≤ k ∧ k < a + n
    · obtain ⟨j, rfl⟩ : ∃ j, k = a + j := ⟨k - a, by omega⟩
      rw [cp_in (by omega), cp_in (by omega)]
    · rw [cp_out (by omega), cp_out (by omega)]
theorem cp_zero (f g : Nat → Int32) (a b : Nat) : cp f g a b 0 = f := by
  funext k; exact cp_out (by omega)
theorem q_save53 {m : Nat → Int32} {P : Nat} (h4 : m 4 = nI P) (hP : P < 8) : ∀ (d j fu : Nat), j + d = 18 → d < fu → f_X9_save_b53 fu (cp m m (106 + 18 * P) 5 j) (nI j) = some (upd (cp m m (106 + 18 * P) 5 18) 4 (nI (P + 1))) := by
  intro d
  induction d with
  | zero =>
    intro j fu h1 h2
    obtain ⟨fu, rfl⟩ : ∃ k, fu = k + 1 := ⟨fu - 1, by omega⟩
    rw [f_X9_save_b53, show j = 18 by omega, if_pos (show (18 : Int32) ≤ nI 18 by decide), show Int32.toNatClampNeg 4 = 4 from rfl, cp_out (by omega), h4, show nI P + 1 = nI (P + 1) from na_add P 1]
  | succ d ih =>
    intro j fu h1 h2
    obtain ⟨fu, rfl⟩ : ∃ k, fu = k + 1 := ⟨fu - 1, by omega⟩
    rw [f_X9_save_b53, if_neg (show ¬ (18 : Int32) ≤ nI j from nI_ge (b := 18) (by omega) (by decide)), show Int32.toNatClampNeg 4 = 4 from rfl, cp_out (show 4 < 106 + 18 * P ∨ 106 + 18 * P + j ≤ 4 by omega), h4, show (5 : Int32) + nI j = nI (5 + j) from na_add 5 j, show (18 : Int32) * nI P = nI (18 * P) from na_mul 18 P, show (106 : Int32) + nI (18 * P) = nI (106 + 18 * P) from na_add 106 (18 * P), na_add, if_pos (nI_in (by omega) (by decide)), if_pos (nI_in (by omega) (by decide)), nI_clamp (by omega), nI_clamp (by omega), cp_out (show 5 + j < 106 + 18 * P ∨ 106 + 18 * P + j ≤ 5 + j by omega), cp_step, show nI j + 1 = nI (j + 1) from na_add j 1]
    exact ih (j + 1) fu (by omega) (by omega)
theorem q_save {m : Nat → Int32} {P : Nat} (h4 : m 4 = nI P) (hP : P < 8) : f_X9_save m = some (upd (cp m m (106 + 18 * P) 5 18) 4 (nI (P + 1))) := by
  unfold f_X9_save f_X9_save_b51
  rw [if_neg (show ¬ m (Int32.toNatClampNeg 4) = 8 from fun q => by
    have := (nI_eq (by omega) (by decide)).mp (show nI P = nI 8 from h4.symm.trans q)
    omega)]
  have h := q_save53 h4 hP 18 0 s_fuel (by omega) (by unfold s_fuel; omega)
  rw [cp_zero] at h
  exact h
theorem q_save13 {m : Nat → Int32} : ∀ (d j fu : Nat), j + d = 126 → d < fu → f_X9_save_b13 fu (cp m m 106 124 j) (nI j) = f_X9_save_b51 (upd (cp m m 106 124 126) 4 7) := by
  intro d
  induction d with
  | zero =>
    intro j fu h1 h2
    obtain ⟨fu, rfl⟩ : ∃ k, fu = k + 1 := ⟨fu - 1, by omega⟩
    rw [f_X9_save_b13, show j = 126 by omega, if_pos (show (126 : Int32) ≤ nI 126 by decide)]; rfl
  | succ d ih =>
    intro j fu h1 h2
    obtain ⟨fu, rfl⟩ : ∃ k, fu = k + 1 := ⟨fu - 1, by omega⟩
    rw [f_X9_save_b13, if_neg (show ¬ (126 : Int32) ≤ nI j from nI_ge (b := 126) (by omega) (by decide)), show (124 : Int32) + nI j = nI (124 + j) from na_add 124 j, show (106 : Int32) + nI j = nI (106 + j) from na_add 106 j, if_pos (nI_in (by omega) (by decide)), if_pos (nI_in (by omega) (by decide)), nI_clamp (by omega), nI_clamp (by omega), cp_out (show 124 + j < 106 ∨ 106 + j ≤ 124 + j by omega), cp_step, show nI j + 1 = nI (j + 1) from na_add j 1]
    exact ih (j + 1) fu (by omega) (by omega)
theorem q_save8 {m : Nat → Int32} (h4 : m 4 = nI 8) : f_X9_save m = some (upd (cp (upd (cp m m 106 124 126) 4 7) (upd (cp m m 106 124 126) 4 7) (106 + 18 * 7) 5 18) 4 (nI 8)) := by
  unfold f_X9_save
  rw [if_pos (show m (Int32.toNatClampNeg 4) = 8 from h4)]
  have h := q_save13 (m := m) 126 0 s_fuel (by omega) (by unfold s_fuel; omega)
  rw [cp_zero] at h
  rw [show (0 : Int32) = nI 0 from rfl, h]
  unfold f_X9_save_b51
  have h2 := q_save53 (m := upd (cp m m 106 124 126) 4 7) (P := 7) (up_same _ _ _) (by decide) 18 0 s_fuel (by omega) (by unfold s_fuel; omega)
  rw [cp_zero] at h2
  exact h2
theorem q_drop {pc : Nat → Int32} {pn : Int32} (hp : pn = nI 8) : f_X5_dropFirst 192 (24 : Int32) pc pn = some (va_cpy pc pc 24 0 168, nI 7) := by
  unfold f_X5_dropFirst
  subst hp
  rw [if_neg (by decide), if_pos (by decide)]
  rfl
/-- a row is the same row of another two -/
theorem GP1.move {pc m pc' m' : Nat → Int32} {r r' : Nat} (h : GP1 pc m r) (hn : rg (m 0) 0 7) (h0 : m' 0 = m 0) (h24 : m' 24 = m 24) (hp : ∀ j, j < 24 → pc' (24 * r' + j) = pc (24 * r + j)) (hm : ∀ j, j < 18 → m' (106 + 18 * r' + j) = m (106 + 18 * r + j)) : GP1 pc' m' r' := by
  obtain ⟨h1, h2, h3, h4, h5, h6, h7, h8, h9, h10⟩ := h
  have hn2 := hn.2
  unfold GP1
  rw [h0, h24, hm 17 (by decide), hm 15 (by decide), hm 16 (by decide), hm 14 (by decide), hp 1 (by decide), hp 2 (by decide)]
  refine ⟨(hp 0 (by decide)).trans h1, h2, h3, h4, h5, h6, h7, h8, h9, fun i hi => ?_⟩
  rw [hp (3 + 3 * i) (by omega), hp (3 + 3 * i + 1) (by omega), hp (3 + 3 * i + 2) (by omega), hm i (by omega), hm (7 + i) (by omega)]
  exact h10 i hi
