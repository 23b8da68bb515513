theorem q_toldOf {gc m : Nat → Int32} {gn : Int32} {n i : Nat} (h : GG gc m) (hg : gn = nI n) (hm : m 0 = nI n) (hn : n ≤ 7) (hi : i < n) (night : Int32) (hnt : night = m 22) (p : Int32) (hp : (0 : Int32).toInt ≤ p.toInt ∧ p.toInt ≤ (4 : Int32).toInt) : ∃ v : Int32, (∀ bads : Int32, (if p = (4 : Int32) then ((f_X1_likelyNow gc gn night (nI i)).bind fun q8 => some (q8, bads)) else ((f_X5_cell 28 (4 : Int32) gc gn (nI i) p).bind fun q7 => some (q7, bads))) = some (v, bads)) ∧ f_X9_toldOf m (nI i) p = some v := by
  have hlt : (i : Int) < (m 0).toInt := by rw [hm, nI_toInt (by omega)]; omega
  obtain ⟨g1, g2, g3, g4, -⟩ := h.2.2.2 i hlt
  obtain ⟨I, hI, eI⟩ := h.ins
  unfold f_X9_toldOf
  rw [show (31 : Int32) = nI 31 from rfl, show (5 : Int32) = nI 5 from rfl, show (12 : Int32) = nI 12 from rfl, show (Int32.toNatClampNeg (19 : Int32)) = 19 from rfl, na_add, na_add, na_add]
  by_cases e0 : p = 0
  · subst e0
    refine ⟨m (31 + i), fun bads => ?_, ?_⟩
    · rw [if_neg (by decide), gcell0 gc hg hn hi, b_some, g1]
    · rw [if_pos rfl, if_pos (nI_in (by omega) (by decide)), nI_clamp (by omega)]
  by_cases e1 : p = 1
  · subst e1
    refine ⟨m (5 + i), fun bads => ?_, ?_⟩
    · rw [if_neg (by decide), gcell1 gc hg hn hi, b_some, g2]
    · rw [if_neg (by decide), if_pos rfl, if_pos (nI_in (by omega) (by decide)), nI_clamp (by omega)]
  by_cases e2 : p = 2
  · subst e2
    refine ⟨m (12 + i), fun bads => ?_, ?_⟩
    · rw [if_neg (by decide), gcell2 gc hg hn hi, b_some, g3]
    · rw [if_neg (by decide), if_neg (by decide), if_pos rfl, if_pos (nI_in (by omega) (by decide)), nI_clamp (by omega)]
  by_cases e3 : p = 3
  · subst e3
    refine ⟨btn (m 19) i, fun bads => ?_, ?_⟩
    · rw [if_neg (by decide), gcell3 gc hg hn hi, b_some, g4]
    · rw [if_neg (by decide), if_neg (by decide), if_neg (by decide), if_pos rfl, eI]
      exact congrArg some (bt_sh ⟨I, hI⟩ ⟨i, by omega⟩)
  have e4 : p = 4 := by
    rw [show (0 : Int32).toInt = 0 from rfl, show (4 : Int32).toInt = 4 from rfl] at hp
    apply Int32.toInt_inj.mp
    have f0 : p.toInt ≠ 0 := fun q => e0 (Int32.toInt_inj.mp q)
    have f1 : p.toInt ≠ 1 := fun q => e1 (Int32.toInt_inj.mp q)
    have f2 : p.toInt ≠ 2 := fun q => e2 (Int32.toInt_inj.mp q)
    have f3 : p.toInt ≠ 3 := fun q => e3 (Int32.toInt_inj.mp q)
    rw [show (4 : Int32).toInt = 4 from rfl]
    omega
  subst e4
  refine ⟨lk (m (31 + i)) (m (5 + i)) (m (12 + i)) (m 22), fun bads => ?_, ?_⟩
  · rw [if_pos rfl, q_likelyNow h hg hm hn hi night hnt, b_some]
  · rw [if_neg (by decide), if_neg (by decide), if_neg (by decide), if_neg (by decide), q_lkOf9 m (by decide) (by decide) (by omega), b_some]
