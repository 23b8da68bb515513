theorem q_written_full {N M : Nat} {w most rows fulls a b c d e : Int32} (cells : Nat → Int32) (hm : most = nI M) (hR : rows = nI M) (hs : M < 2 ^ 31) : f_X8_written N w most fulls cells rows a b c d e = some (-4, fulls + 1, cells, rows) := by
  unfold f_X8_written
  rw [q_full hm hR (Nat.le_refl M) hs, b_some, if_neg (by decide)]; rfl
theorem GS.push {sc c' m m' : Nat → Int32} {p1 p2 p3 p4 : Int32} {R : Nat} (h : GS sc m) (hm : m 1 = nI R) (hR : R < 5) (k0 : ∀ k, (k < R * 4 ∨ R * 4 + 4 ≤ k) → c' k = sc k) (k1 : c' (R * 4 + 0) = p1) (k2 : c' (R * 4 + 1) = p2) (k3 : c' (R * 4 + 2) = p3) (k4 : c' (R * 4 + 3) = p4)
    (n0 : m' 1 = nI (R + 1)) (nk : ∀ k, 38 ≤ k → k < 38 + 4 * R → m' k = m k) (n1 : m' (38 + 4 * R) = p1) (n2 : m' (38 + 4 * R + 1) = p2) (n3 : m' (38 + 4 * R + 2) = p3) (n4 : m' (38 + 4 * R + 3) = p4) (r1 : rg p1 0 6) (r2 : rg p2 0 9) (r3 : rg p3 0 99) (r4 : rg p4 0 1) : GS c' m' := by
  intro k hk
  rw [n0, nI_toInt (by omega)] at hk
  by_cases e : k = R
  · subst e
    have f0 : m' (38 + (4 * k + 0)) = p1 := n1
    have f1 : m' (38 + (4 * k + 1)) = p2 := n2
    have f2 : m' (38 + (4 * k + 2)) = p3 := n3
    have f3 : m' (38 + (4 * k + 3)) = p4 := n4
    rw [f0, f1, f2, f3]
    refine ⟨fun j hj => ?_, r1, r2, r3, r4⟩
    rw [Nat.mul_comm 4 k]
    rcases (show j = 0 ∨ j = 1 ∨ j = 2 ∨ j = 3 by omega) with rfl | rfl | rfl | rfl
    · rw [k1, Nat.mul_comm k 4, f0]
    · rw [k2, Nat.mul_comm k 4, f1]
    · rw [k3, Nat.mul_comm k 4, f2]
    · rw [k4, Nat.mul_comm k 4, f3]
  · obtain ⟨g1, g2, g3, g4, g5⟩ := h k (by rw [hm, nI_toInt (by omega)]; omega)
    rw [nk (38 + (4 * k + 0)) (by omega) (by omega), nk (38 + (4 * k + 1)) (by omega) (by omega), nk (38 + (4 * k + 2)) (by omega) (by omega), nk (38 + (4 * k + 3)) (by omega) (by omega)]
    refine ⟨fun j hj => ?_, g2, g3, g4, g5⟩
    rw [k0 _ (by omega), nk _ (by omega) (by omega)]
    exact g1 j hj
theorem GN.push {rc c' m m' : Nat → Int32} {p1 p2 p3 p4 p5 : Int32} {R : Nat} (h : GN rc m) (hm : m 2 = nI R) (hR : R < 6) (k0 : ∀ k, (k < R * 5 ∨ R * 5 + 5 ≤ k) → c' k = rc k) (k1 : c' (R * 5 + 0) = p1) (k2 : c' (R * 5 + 1) = p2) (k3 : c' (R * 5 + 2) = p3) (k4 : c' (R * 5 + 3) = p4) (k5 : c' (R * 5 + 4) = p5)
    (n0 : m' 2 = nI (R + 1)) (nk : ∀ k, 58 ≤ k → k < 58 + 5 * R → m' k = m k) (n1 : m' (58 + 5 * R) = p1) (n2 : m' (58 + 5 * R + 1) = p2) (n3 : m' (58 + 5 * R + 2) = p3) (n4 : m' (58 + 5 * R + 3) = p4) (n5 : m' (58 + 5 * R + 4) = p5) (r1 : rg p1 0 6) (r2 : rg p2 0 9) (r3 : rg p3 0 9) (r4 : rg p4 0 99) (r5 : rg p5 0 60) : GN c' m' := by
  intro k hk
  rw [n0, nI_toInt (by omega)] at hk
  by_cases e : k = R
  · subst e
    have f0 : m' (58 + (5 * k + 0)) = p1 := n1
    have f1 : m' (58 + (5 * k + 1)) = p2 := n2
    have f2 : m' (58 + (5 * k + 2)) = p3 := n3
    have f3 : m' (58 + (5 * k + 3)) = p4 := n4
    have f4 : m' (58 + (5 * k + 4)) = p5 := n5
    rw [f0, f1, f2, f3, f4]
    refine ⟨fun j hj => ?_, r1, r2, r3, r4, r5⟩
    rw [Nat.mul_comm 5 k]
    rcases (show j = 0 ∨ j = 1 ∨ j = 2 ∨ j = 3 ∨ j = 4 by omega) with rfl | rfl | rfl | rfl | rfl
    · rw [k1, Nat.mul_comm k 5, f0]
    · rw [k2, Nat.mul_comm k 5, f1]
    · rw [k3, Nat.mul_comm k 5, f2]
    · rw [k4, Nat.mul_comm k 5, f3]
    · rw [k5, Nat.mul_comm k 5, f4]
  · obtain ⟨g1, g2, g3, g4, g5, g6⟩ := h k (by rw [hm, nI_toInt (by omega)]; omega)
    rw [nk (58 + (5 * k + 0)) (by omega) (by omega), nk (58 + (5 * k + 1)) (by omega) (by omega), nk (58 + (5 * k + 2)) (by omega) (by omega), nk (58 + (5 * k + 3)) (by omega) (by omega), nk (58 + (5 * k + 4)) (by omega) (by omega)]
    refine ⟨fun j hj => ?_, g2, g3, g4, g5, g6⟩
    rw [k0 _ (by omega), nk _ (by omega) (by omega)]
    exact g1 j hj
theorem GK.push {kc c' m m' : Nat → Int32} {p1 p2 p3 : Int32} {R : Nat} (h : GK kc m) (hm : m 3 = nI R) (hR : R < 6) (k0 : ∀ k, (k < R * 3 ∨ R * 3 + 3 ≤ k) → c' k = kc k) (k1 : c' (R * 3 + 0) = p1) (k2 : c' (R * 3 + 1) = p2) (k3 : c' (R * 3 + 2) = p3)
    (n0 : m' 3 = nI (R + 1)) (nk : ∀ k, 88 ≤ k → k < 88 + 3 * R → m' k = m k) (n1 : m' (88 + 3 * R) = p1) (n2 : m' (88 + 3 * R + 1) = p2) (n3 : m' (88 + 3 * R + 2) = p3) (r1 : rg p1 0 4) (r2 : rg p2 0 9) (r3 : rg p3 (-20) 99) : GK c' m' := by
  intro k hk
  rw [n0, nI_toInt (by omega)] at hk
  by_cases e : k = R
  · subst e
    have f0 : m' (88 + (3 * k + 0)) = p1 := n1
    have f1 : m' (88 + (3 * k + 1)) = p2 := n2
    have f2 : m' (88 + (3 * k + 2)) = p3 := n3
    rw [f0, f1, f2]
    refine ⟨fun j hj => ?_, r1, r2, r3⟩
    rw [Nat.mul_comm 3 k]
    rcases (show j = 0 ∨ j = 1 ∨ j = 2 by omega) with rfl | rfl | rfl
    · rw [k1, Nat.mul_comm k 3, f0]
    · rw [k2, Nat.mul_comm k 3, f1]
    · rw [k3, Nat.mul_comm k 3, f2]
  · obtain ⟨g1, g2, g3, g4⟩ := h k (by rw [hm, nI_toInt (by omega)]; omega)
    rw [nk (88 + (3 * k + 0)) (by omega) (by omega), nk (88 + (3 * k + 1)) (by omega) (by omega), nk (88 + (3 * k + 2)) (by omega) (by omega)]
    refine ⟨fun j hj => ?_, g2, g3, g4⟩
    rw [k0 _ (by omega), nk _ (by omega) (by omega)]
    exact g1 j hj
