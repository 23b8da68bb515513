/-- so many places from a on are 0 -/
def zr (f : Nat → Int32) (a : Nat) : Nat → Nat → Int32
  | 0 => f
  | j + 1 => upd (zr f a j) (a + j) 0
theorem zr_get (f : Nat → Int32) (a : Nat) : ∀ (n k : Nat), zr f a n k = if a ≤ k ∧ k < a + n then 0 else f k := by
  intro n
  induction n with
  | zero => intro k; rw [zr, if_neg (by omega)]
  | succ n ih =>
    intro k
    rw [zr]
    by_cases h : k = a + n
    · rw [h, up_same, if_pos (by omega)]
    · rw [up_ne _ _ h, ih k]
      by_cases h2 : a ≤ k ∧ k < a + n
      · rw [if_pos h2, if_pos (by omega)]
      · rw [if_neg h2, if_neg (by omega)]
theorem q_append {N W M R : Nat} {w most rows : Int32} (cells : Nat → Int32) (hw : w = nI W) (hm : most = nI M) (hR : rows = nI R) (hlt : R < M) (hN : M * W ≤ N) (hs : N < 2 ^ 31) (hMs : M < 2 ^ 31) (hWs : W < 1000) : f_X5_append N w most cells rows = some (nI R, zr cells (R * W) W, nI (R + 1)) := by
  have loop : ∀ (d j fu : Nat), j + d = W → d < fu → f_X5_append_b26 N w most fu (zr cells (R * W) j) (nI (R + 1)) (nI R) (nI j) = some (nI R, zr cells (R * W) W, nI (R + 1)) := by
    intro d
    induction d with
    | zero =>
      intro j fu h1 h2
      obtain ⟨fu, rfl⟩ : ∃ k, fu = k + 1 := ⟨fu - 1, by omega⟩
      rw [f_X5_append_b26, hw, if_pos (nI_le (by omega) (by omega)), show j = W by omega]
    | succ d ih =>
      intro j fu h1 h2
      obtain ⟨fu, rfl⟩ : ∃ k, fu = k + 1 := ⟨fu - 1, by omega⟩
      have h3 : (R + 1) * W ≤ M * W := Nat.mul_le_mul_right W hlt
      rw [f_X5_append_b26, hw, if_neg (nI_ge (by omega) (by omega)), q_put (zr cells (R * W) j) 0 rfl rfl rfl rfl (by omega) (by omega) (Nat.le_trans h3 hN) hs (by omega) (by omega), b_some, show (1 : Int32) = nI 1 from rfl, na_add, ← hw]
      exact ih (j + 1) fu (by omega) (by omega)
  unfold f_X5_append f_X5_isFull
  rw [hm, hR, if_pos (nI_lt hlt hMs), b_some, if_pos rfl, show (1 : Int32) = nI 1 from rfl, na_add, ← hm]
  exact loop W 0 s_fuel (by omega) (by unfold s_fuel; omega)
theorem q_full {M R : Nat} {most rows : Int32} (hm : most = nI M) (hR : rows = nI R) (h : M ≤ R) (hs : R < 2 ^ 31) : f_X5_isFull most rows = some 1 := by
  unfold f_X5_isFull; rw [hm, hR, if_neg (nI_nlt h hs)]
theorem q_free {M R : Nat} {most rows : Int32} (hm : most = nI M) (hR : rows = nI R) (h : R < M) (hs : M < 2 ^ 31) : f_X5_isFull most rows = some 0 := by
  unfold f_X5_isFull; rw [hm, hR, if_pos (nI_lt h hs)]
theorem q_written {N W M R : Nat} {w most rows fulls : Int32} (cells : Nat → Int32) (a b c d e : Int32) (hw : w = nI W) (hm : most = nI M) (hR : rows = nI R) (hlt : R < M) (hN : M * W ≤ N) (hs : N < 2 ^ 31) (hMs : M < 2 ^ 31) (hW : W = 3 ∨ W = 4 ∨ W = 5) : ∃ c' : Nat → Int32, f_X8_written N w most fulls cells rows a b c d e = some (nI (R + 1), fulls, c', nI (R + 1)) ∧ (∀ k, (k < R * W ∨ R * W + W ≤ k) → c' k = cells k) ∧ c' (R * W + 0) = a ∧ c' (R * W + 1) = b ∧ c' (R * W + 2) = c ∧ (4 ≤ W → c' (R * W + 3) = d) ∧ (5 ≤ W → c' (R * W + 4) = e) := by
  have h3 : (R + 1) * W ≤ M * W := Nat.mul_le_mul_right W hlt
  have h4 := Nat.le_trans h3 hN
  unfold f_X8_written
  rw [q_free hm hR hlt hMs, b_some, if_pos rfl, q_append cells hw hm hR hlt hN hs hMs (by omega), b_some]
  rw [q_put _ a hw rfl rfl (show (0 : Int32) = nI 0 from rfl) (by omega) (by omega) h4 hs (by omega) (by omega), b_some]
  rw [q_put _ b hw rfl rfl (show (1 : Int32) = nI 1 from rfl) (by omega) (by omega) h4 hs (by omega) (by omega), b_some]
  rw [q_put _ c hw rfl rfl (show (2 : Int32) = nI 2 from rfl) (by omega) (by omega) h4 hs (by omega) (by omega), b_some]
  rcases hW with rfl | rfl | rfl
  · rw [q_put_out _ d hw rfl rfl (show (3 : Int32) = nI 3 from rfl) (by omega) (by omega) (by omega) (by omega), b_some]
    rw [q_put_out _ e hw rfl rfl (show (4 : Int32) = nI 4 from rfl) (by omega) (by omega) (by omega) (by omega), b_some]
    refine ⟨_, rfl, fun k hk => ?_, ?_, ?_, ?_, fun h => absurd h (by decide), fun h => absurd h (by decide)⟩
    · rw [up_ne _ _ (by omega), up_ne _ _ (by omega), up_ne _ _ (by omega)]; exact (zr_get _ _ _ _).trans (if_neg (by omega))
    · rw [up_ne _ _ (by omega), up_ne _ _ (by omega), up_same]
    · rw [up_ne _ _ (by omega), up_same]
    · rw [up_same]
  · rw [q_put _ d hw rfl rfl (show (3 : Int32) = nI 3 from rfl) (by omega) (by omega) h4 hs (by omega) (by omega), b_some]
    rw [q_put_out _ e hw rfl rfl (show (4 : Int32) = nI 4 from rfl) (by omega) (by omega) (by omega) (by omega), b_some]
    refine ⟨_, rfl, fun k hk => ?_, ?_, ?_, ?_, fun _ => ?_, fun h => absurd h (by decide)⟩
    · rw [up_ne _ _ (by omega), up_ne _ _ (by omega), up_ne _ _ (by omega), up_ne _ _ (by omega)]; exact (zr_get _ _ _ _).trans (if_neg (by omega))
    · rw [up_ne _ _ (by omega), up_ne _ _ (by omega), up_ne _ _ (by omega), up_same]
    · rw [up_ne _ _ (by omega), up_ne _ _ (by omega), up_same]
    · rw [up_ne _ _ (by omega), up_same]
    · rw [up_same]
  · rw [q_put _ d hw rfl rfl (show (3 : Int32) = nI 3 from rfl) (by omega) (by omega) h4 hs (by omega) (by omega), b_some]
    rw [q_put _ e hw rfl rfl (show (4 : Int32) = nI 4 from rfl) (by omega) (by omega) h4 hs (by omega) (by omega), b_some]
    refine ⟨_, rfl, fun k hk => ?_, ?_, ?_, ?_, fun _ => ?_, fun _ => ?_⟩
    · rw [up_ne _ _ (by omega), up_ne _ _ (by omega), up_ne _ _ (by omega), up_ne _ _ (by omega), up_ne _ _ (by omega)]; exact (zr_get _ _ _ _).trans (if_neg (by omega))
    · rw [up_ne _ _ (by omega), up_ne _ _ (by omega), up_ne _ _ (by omega), up_ne _ _ (by omega), up_same]
    · rw [up_ne _ _ (by omega), up_ne _ _ (by omega), up_ne _ _ (by omega), up_same]
    · rw [up_ne _ _ (by omega), up_ne _ _ (by omega), up_same]
    · rw [up_ne _ _ (by omega), up_same]
    · rw [up_same]
