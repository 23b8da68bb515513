theorem q_welcome {gn : Int32} {n : Nat} (gc : Nat → Int32) (a b : Int32) (hg : gn = nI n) (hn : n < 7) : f_X1_welcome gc gn a b = some (nI n, upd (upd (zr gc (n * 4) 4) (4 * n) a) (4 * n + 1) b, nI (n + 1)) := by
  unfold f_X1_welcome
  rw [q_append (N := 28) (W := 4) (M := 7) (R := n) (w := 4) (most := 7) gc rfl rfl hg hn (by decide) (by decide) (by decide) (by decide), b_some]
  rw [gput0 (gn := nI (n + 1)) (n := n + 1) (i := n) _ a rfl (by omega) (by omega), b_some]
  rw [gput1 (gn := nI (n + 1)) (n := n + 1) (i := n) _ b rfl (by omega) (by omega), b_some]
theorem q_layOne {N n : Nat} {m : Nat → Int32} (a b : Int32) (hN : 38 ≤ N) (hN2 : N < 1000) (hm : m 0 = nI n) (hn : n < 7) : f_X9_layOne N m a b = some (upd (upd (upd (upd m (31 + n) a) (5 + n) b) (12 + n) 0) 0 (nI (n + 1))) := by
  unfold f_X9_layOne
  have e0 : Int32.toNatClampNeg 0 = 0 := rfl
  rw [e0, hm, show (31 : Int32) + nI n = nI (31 + n) from na_add 31 n, show (5 : Int32) + nI n = nI (5 + n) from na_add 5 n, show (12 : Int32) + nI n = nI (12 + n) from na_add 12 n]
  rw [if_pos (show ¬ ((0 : Int32) < 0 ∨ N ≤ 0) from nI_in (c := 0) (by omega) (by omega)), if_pos (nI_in (by omega) (by omega)), if_pos (nI_in (by omega) (by omega)), if_pos (nI_in (by omega) (by omega)), if_pos (show ¬ ((0 : Int32) < 0 ∨ N ≤ 0) from nI_in (c := 0) (by omega) (by omega)), if_pos (show ¬ ((0 : Int32) < 0 ∨ N ≤ 0) from nI_in (c := 0) (by omega) (by omega)), nI_clamp (by omega), nI_clamp (by omega), nI_clamp (by omega)]
  rw [up_ne _ _ (show (0 : Nat) ≠ 12 + n by omega), up_ne _ _ (show (0 : Nat) ≠ 5 + n by omega), up_ne _ _ (show (0 : Nat) ≠ 31 + n by omega), hm, show nI n + 1 = nI (n + 1) from na_add n 1]
theorem GG.one {gc m m' : Nat → Int32} {a b : Int32} {n : Nat} (h : GG gc m) (hm : m 0 = nI n) (hn : n < 7) (ha : rg a 0 5) (hb : rg b 0 9) (m0 : m' 0 = nI (n + 1)) (m19 : m' 19 = m 19) (m24 : m' 24 = m 24) (k31 : m' (31 + n) = a) (k5 : m' (5 + n) = b) (k12 : m' (12 + n) = 0) (old : ∀ i : Nat, i < n → m' (31 + i) = m (31 + i) ∧ m' (5 + i) = m (5 + i) ∧ m' (12 + i) = m (12 + i)) : GG (upd (upd (zr gc (n * 4) 4) (4 * n) a) (4 * n + 1) b) m' := by
  obtain ⟨h1, h2, h3, h4⟩ := h
  unfold GG
  rw [m0, m19, m24, nI_toInt (by omega)]
  rw [hm, nI_toInt (by omega)] at h2 h4
  refine ⟨h1, fun i hi => h2 i (by omega), h3, fun i hi => ?_⟩
  by_cases e : i = n
  · subst e
    rw [k31, k5, k12]
    refine ⟨?_, ?_, ?_, ?_, ha, hb, rz (by decide)⟩
    · rw [up_ne _ _ (by omega), up_same]
    · rw [up_same]
    · rw [up_ne _ _ (by omega), up_ne _ _ (by omega), zr_get, if_pos (by omega)]
    · rw [up_ne _ _ (by omega), up_ne _ _ (by omega), zr_get, if_pos (by omega)]
      unfold btn
      rw [h2 i (by omega), if_neg (by decide)]
  · obtain ⟨o1, o2, o3⟩ := old i (by omega)
    rw [o1, o2, o3]
    obtain ⟨g1, g2, g3, g4, g5⟩ := h4 i (by omega)
    refine ⟨?_, ?_, ?_, ?_, g5⟩
    · rw [up_ne _ _ (by omega), up_ne _ _ (by omega), zr_get, if_neg (by omega), g1]
    · rw [up_ne _ _ (by omega), up_ne _ _ (by omega), zr_get, if_neg (by omega), g2]
    · rw [up_ne _ _ (by omega), up_ne _ _ (by omega), zr_get, if_neg (by omega), g3]
    · rw [up_ne _ _ (by omega), up_ne _ _ (by omega), zr_get, if_neg (by omega), g4]
/-- who comes: class and reference, over the cells that change -/
def CR (wets gc : Nat → Int32) (gn host rooms night wheels turned : Int32) (m : Nat → Int32) : Prop := gn = m 0 ∧ host = m 23 ∧ rooms = m 24 ∧ night = m 22 ∧ wheels = m 20 ∧ turned = m 21 ∧ rg (m 0) 0 7 ∧ rg (m 23) 0 5 ∧ rg (m 24) 0 7 ∧ rg (m 22) 0 20000 ∧ rg (m 20) 0 99 ∧ rg (m 21) 0 9999 ∧ GW wets m ∧ GG gc m
/-- let in, by a WET x: 1, else 0 (a room being looked for) -/
def op (m : Nat → Int32) (i : Nat) (x : Int32) : Int32 := if m 24 ≤ nI (pcount (m 19)) then 0 else if ps (m 23) x (m 20) < lk (m (31 + i)) (m (5 + i)) (m (12 + i)) (m 22) then 0 else 1
theorem op01 (m : Nat → Int32) (i : Nat) (x : Int32) : op m i x = 0 ∨ op m i x = 1 := by
  unfold op; split
  · exact Or.inl rfl
  · split
    · exact Or.inl rfl
    · exact Or.inr rfl
section QC
variable {wets gc m : Nat → Int32} {gn host rooms night wheels turned : Int32} {n i : Nat}
theorem q_opensTo (h : CR wets gc gn host rooms night wheels turned m) (hm : m 0 = nI n) (hi : i < n) (hn : n ≤ 7) (x : Int32) : f_X1_opensTo gc gn host rooms night wheels (nI i) x = some (op m i x) := by
  obtain ⟨a1, a2, a3, a4, a5, a6, b1, b2, b3, b4, b5, b6, hW, hG⟩ := h
  unfold f_X1_opensTo op
  rw [q_hasRoom hG (a1.trans hm) hm hn rooms a3, b_some]
  by_cases hr : m 24 ≤ nI (pcount (m 19))
  · rw [if_pos hr, if_pos rfl, if_pos hr]
  · rw [if_neg hr, if_neg (by decide), if_neg hr, q_likelyNow hG (a1.trans hm) hm hn hi night a4, b_some, q_ps, b_some, a2, a5]
    split <;> rfl
theorem q_free9 {N I : Nat} (hN : 38 ≤ N) (hN2 : N < 1000) (h19 : m 19 = nI I) (hI : I < 128) : f_X9_isFree N m = some (if m 24 ≤ nI (pcount (m 19)) then 0 else 1) := by
  unfold f_X9_isFree
  rw [if_pos (show ¬ ((19 : Int32) < 0 ∨ N ≤ (Int32.toNatClampNeg 19)) from nI_in (c := 19) (by omega) (by omega)), show Int32.toNatClampNeg 19 = 19 from rfl, h19, bt_bits ⟨I, hI⟩, b_some, if_pos (show ¬ ((24 : Int32) < 0 ∨ N ≤ (Int32.toNatClampNeg 24)) from nI_in (c := 24) (by omega) (by omega)), show Int32.toNatClampNeg 24 = 24 from rfl]
  split <;> rfl
theorem q_letsIn9 {N t I : Nat} (hN : 38 ≤ N) (hN2 : N < 1000) (h19 : m 19 = nI I) (hI : I < 128) (h22 : m 22 = nI t) (ht : t < 2 ^ 31) (hi : i < 7) : f_X9_letsIn N m (nI i) = some (if btn (m 19) i = 1 then 0 else op m i (m (25 + t % 6))) := by
  unfold f_X9_letsIn
  rw [if_pos (show ¬ ((19 : Int32) < 0 ∨ N ≤ (Int32.toNatClampNeg 19)) from nI_in (c := 19) (by omega) (by omega)), show Int32.toNatClampNeg 19 = 19 from rfl, h19, bt_has ⟨I, hI⟩ ⟨i, hi⟩, b_some]
  show (if btn (nI I) i = 0 then _ else _) = _
  rcases btn01 (nI I) i with q | q
  · rw [if_pos q, q, if_neg (by decide), q_free9 hN hN2 h19 hI, b_some]
    unfold op
    by_cases hr : m 24 ≤ nI (pcount (m 19))
    · rw [if_pos hr, if_pos rfl, if_pos hr]
    · rw [if_neg hr, if_neg (by decide), if_neg hr, q_lkOf9 m hN hN2 hi, b_some, q_psNow9 m hN hN2 h22 ht, b_some]
      split <;> rfl
  · rw [if_neg (by rw [q]; decide), if_pos q]
end QC
