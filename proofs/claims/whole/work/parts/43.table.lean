/-! rows of a table -/
theorem t_idx {W R i j N : Nat} (hi : i < R) (hj : j < W) (hN : R * W ≤ N) : i * W + j < N := by
  have h1 : (i + 1) * W ≤ R * W := Nat.mul_le_mul_right W hi
  rw [Nat.succ_mul] at h1
  omega
theorem na_mul (a b : Nat) : nI a * nI b = nI (a * b) := (Int32.ofNat_mul a b).symm
theorem na_add (a b : Nat) : nI a + nI b = nI (a + b) := (Int32.ofNat_add a b).symm
theorem q_cell {N W R i j : Nat} {w rows p q : Int32} (cells : Nat → Int32) (hw : w = nI W) (hR : rows = nI R) (hp : p = nI i) (hq : q = nI j) (hi : i < R) (hj : j < W) (hN : R * W ≤ N) (hs : N < 2 ^ 31) (hRs : R < 2 ^ 31) (hWs : W < 2 ^ 31) : f_X5_cell N w cells rows p q = some (cells (i * W + j)) := by
  subst hw hR hp hq
  have hix := t_idx hi hj hN
  unfold f_X5_cell
  rw [if_neg (nI_pos (by omega)), if_neg (nI_ge hi hRs), if_neg (nI_pos (by omega)), if_pos (nI_lt hj hWs), na_mul, na_add, if_pos (nI_in hix hs), nI_clamp (by omega)]
theorem q_cell_out {N W R i : Nat} {w rows p q : Int32} (cells : Nat → Int32) (hR : rows = nI R) (hp : p = nI i) (hi : R ≤ i) (his : i < 2 ^ 31) : f_X5_cell N w cells rows p q = some 0 := by
  subst hR hp
  unfold f_X5_cell
  rw [if_neg (nI_pos his), if_pos (nI_le hi his)]
theorem q_put {N W R i j : Nat} {w rows p q : Int32} (cells : Nat → Int32) (x : Int32) (hw : w = nI W) (hR : rows = nI R) (hp : p = nI i) (hq : q = nI j) (hi : i < R) (hj : j < W) (hN : R * W ≤ N) (hs : N < 2 ^ 31) (hRs : R < 2 ^ 31) (hWs : W < 2 ^ 31) : f_X5_put N w rows cells p q x = some (upd cells (i * W + j) x) := by
  subst hw hR hp hq
  have hix := t_idx hi hj hN
  unfold f_X5_put
  rw [if_neg (nI_pos (by omega)), if_neg (nI_ge hi hRs), if_neg (nI_pos (by omega)), if_pos (nI_lt hj hWs), na_mul, na_add, if_pos (nI_in hix hs), nI_clamp (by omega)]
theorem q_put_out {N W R i j : Nat} {w rows p q : Int32} (cells : Nat → Int32) (x : Int32) (hw : w = nI W) (hR : rows = nI R) (hp : p = nI i) (hq : q = nI j) (hi : i < R) (hj : W ≤ j) (hjs : j < 2 ^ 31) (hRs : R < 2 ^ 31) : f_X5_put N w rows cells p q x = some cells := by
  subst hw hR hp hq
  unfold f_X5_put
  rw [if_neg (nI_pos (by omega)), if_neg (nI_ge hi hRs), if_neg (nI_pos hjs), if_neg (nI_nlt hj hjs)]
/-- a sum of a column's first rows -/
def isum (f : Nat → Int32) : Nat → Int32
  | 0 => 0
  | n + 1 => isum f n + f n
theorem q_sum_loop {N W R j : Nat} {w rows q : Int32} (cells : Nat → Int32) (hw : w = nI W) (hR : rows = nI R) (hq : q = nI j) (hj : j < W) (hN : R * W ≤ N) (hs : N < 2 ^ 31) (hRs : R < 2 ^ 31) (hWs : W < 2 ^ 31) : ∀ (d i fu : Nat), i + d = R → d < fu → f_X5_sum_b4 N w cells rows fu q (isum (fun i => cells (i * W + j)) i) (nI i) = some (isum (fun i => cells (i * W + j)) R) := by
  intro d
  induction d with
  | zero =>
    intro i fu h1 h2
    obtain ⟨fu, rfl⟩ : ∃ k, fu = k + 1 := ⟨fu - 1, by omega⟩
    rw [f_X5_sum_b4, hR, if_pos (nI_le (by omega) (by omega)), show i = R by omega]
  | succ d ih =>
    intro i fu h1 h2
    obtain ⟨fu, rfl⟩ : ∃ k, fu = k + 1 := ⟨fu - 1, by omega⟩
    rw [f_X5_sum_b4, hR, if_neg (nI_ge (by omega) hRs), q_cell cells hw rfl rfl hq (by omega) hj hN hs hRs hWs, b_some, show (1 : Int32) = nI 1 from rfl, na_add, ← hR]
    exact ih (i + 1) fu (by omega) (by omega)
theorem q_sum {N W R j : Nat} {w rows q : Int32} (cells : Nat → Int32) (hw : w = nI W) (hR : rows = nI R) (hq : q = nI j) (hj : j < W) (hN : R * W ≤ N) (hs : N < 2 ^ 31) (hRs : R < 1000) (hWs : W < 2 ^ 31) : f_X5_sum N w cells rows q = some (isum (fun i => cells (i * W + j)) R) :=
  q_sum_loop cells hw hR hq hj hN hs (by omega) hWs R 0 s_fuel (by omega) (by unfold s_fuel; omega)
