/-- the row that is written now -/
theorem GP1.new {wets gc pc m : Nat → Int32} {gn host rooms night wheels turned v : Int32} {n P : Nat} (h : CR wets gc gn host rooms night wheels turned m) (h22 : rg (m 22) 0 9999) (hm : m 0 = nI n) (hn : n ≤ 7) (hP : P < 8) : GP1 (kr gc (upd (upd (upd (zr pc (P * 24) 24) (P * 24 + 0) night) (P * 24 + 1) wheels) (P * 24 + 2) turned) P n) (upd (cp m m (106 + 18 * P) 5 18) 4 v) P := by
  obtain ⟨a1, a2, a3, a4, a5, a6, b1, b2, b3, b4, b5, b6, hW, hG⟩ := h
  have hin : ∀ j, j < 18 → upd (cp m m (106 + 18 * P) 5 18) 4 v (106 + 18 * P + j) = m (5 + j) := fun j hj => by
    rw [up_ne _ _ (by omega), cp_in hj]
  have hout : ∀ k, k < 106 → k ≠ 4 → upd (cp m m (106 + 18 * P) 5 18) 4 v k = m k := fun k h1 h2 => by
    rw [up_ne _ _ h2, cp_out (by omega)]
  generalize upd (cp m m (106 + 18 * P) 5 18) 4 v = m' at hin hout ⊢
  obtain ⟨g1, g2, g3, g4⟩ := hG
  unfold GP1
  rw [hin 17 (by decide), hin 15 (by decide), hin 16 (by decide), hin 14 (by decide), hout 0 (by decide) (by decide), hout 24 (by decide) (by decide)]
  rw [show 24 * P = P * 24 + 0 by omega, kr_out _ _ _ _ (P * 24 + 0) (by omega), kr_out _ _ _ _ (P * 24 + 0 + 1) (by omega), kr_out _ _ _ _ (P * 24 + 0 + 2) (by omega), up_ne _ _ (show P * 24 + 0 ≠ P * 24 + 2 by omega), up_ne _ _ (show P * 24 + 0 ≠ P * 24 + 1 by omega), up_same, up_ne _ _ (show P * 24 + 0 + 1 ≠ P * 24 + 2 by omega), show P * 24 + 0 + 1 = P * 24 + 1 from rfl, up_same, show P * 24 + 0 + 2 = P * 24 + 2 from rfl, up_same]
  refine ⟨a4, a5, a6, h22, b5, b6, g1, g2, g3, fun i hi => ?_⟩
  have hi' := hi
  rw [hm, nI_toInt (by omega)] at hi'
  rw [hin i (by omega), hin (7 + i) (by omega), show P * 24 + 0 = P * 24 from rfl]
  obtain ⟨k1, k2, k3⟩ := kr_in gc (upd (upd (upd (zr pc (P * 24) 24) (P * 24) night) (P * 24 + 1) wheels) (P * 24 + 2) turned) P n i (by omega)
  rw [k1, k2, k3, show 5 + (7 + i) = 12 + i by omega]
  obtain ⟨l1, l2, l3, l4, l5, l6, l7⟩ := g4 i hi
  exact ⟨l2, l3, l4, l6, l7⟩
theorem GP.push {wets gc pc m : Nat → Int32} {gn host rooms night wheels turned : Int32} {n P : Nat} (h : CR wets gc gn host rooms night wheels turned m) (h22 : rg (m 22) 0 9999) (hm : m 0 = nI n) (hn : n ≤ 7) (hP : P < 8) (hp : ∀ r, r < P → GP1 pc m r) : GP (kr gc (upd (upd (upd (zr pc (P * 24) 24) (P * 24 + 0) night) (P * 24 + 1) wheels) (P * 24 + 2) turned) P n) (upd (cp m m (106 + 18 * P) 5 18) 4 (nI (P + 1))) := by
  intro r hr
  rw [up_same, nI_toInt (by omega)] at hr
  by_cases e : r = P
  · subst e; exact GP1.new h h22 hm hn hP
  · have hb := h.2.2.2.2.2.2.1
    refine (hp r (by omega)).move hb ?_ ?_ (fun j hj => ?_) (fun j hj => ?_)
    · rw [up_ne _ _ (by decide), cp_out (by omega)]
    · rw [up_ne _ _ (by decide), cp_out (by omega)]
    · rw [kr_out _ _ _ _ _ (by omega), up_ne _ _ (by omega), up_ne _ _ (by omega), up_ne _ _ (by omega), zr_get, if_neg (by omega)]
    · rw [up_ne _ _ (by omega), cp_out (by omega)]
theorem G0.cr {wets gc m : Nat → Int32} {gn sn rn kn pn host rooms night wheels turned : Int32} (h : G0 gn sn rn kn pn host rooms night wheels turned m) (hW : GW wets m) (hG : GG gc m) : CR wets gc gn host rooms night wheels turned m := by
  obtain ⟨a1, a2, a3, a4, a5, a6, a7, a8, a9, a10, b1, b2, b3, b4, b5, b6, b7, b8, b9, b10⟩ := h
  exact ⟨a1, a6, a7, a8, a9, a10, b1, b6, b7, ⟨b8.1, Int.le_trans b8.2 (by decide)⟩, b9, b10, hW, hG⟩
theorem CR.same {wets gc m m' : Nat → Int32} {gn host rooms night wheels turned : Int32} (h : CR wets gc gn host rooms night wheels turned m) (e : ∀ k : Nat, k < 38 → k ≠ 4 → m' k = m k) : CR wets gc gn host rooms night wheels turned m' := by
  obtain ⟨a1, a2, a3, a4, a5, a6, b1, b2, b3, b4, b5, b6, hW, hG⟩ := h
  unfold CR
  rw [e 0 (by decide) (by decide), e 23 (by decide) (by decide), e 24 (by decide) (by decide), e 22 (by decide) (by decide), e 20 (by decide) (by decide), e 21 (by decide) (by decide)]
  exact ⟨a1, a2, a3, a4, a5, a6, b1, b2, b3, b4, b5, b6, hW.congr (fun k hk => e k (by omega) (by omega)), hG.congr b1 (fun k hk => e k (by omega) (by omega))⟩
/-- what may be undone is kept by both -/
theorem HR.keep {wets gc sc rc kc pc m : Nat → Int32} {gn sn rn kn pn host rooms night wheels turned : Int32} (h : HR wets gc gn sc sn rc rn kc kn pc pn host rooms night wheels turned m) : ∃ (pc' : Nat → Int32) (pn' : Int32) (m' : Nat → Int32), f_X1_keep gc gn night wheels turned pc pn = some (pc', pn') ∧ f_X9_save m = some m' ∧ HR wets gc gn sc sn rc rn kc kn pc' pn' host rooms night wheels turned m' ∧ ∀ k : Nat, k < 106 → k ≠ 4 → m' k = m k := by
  obtain ⟨hG0, hW, hG, hS, hN, hK, hP⟩ := h
  have hcr := hG0.cr hW hG
  obtain ⟨a1, a2, a3, a4, a5, a6, a7, a8, a9, a10, b1, b2, b3, b4, b5, b6, b7, b8, b9, b10⟩ := hG0
  obtain ⟨n, hn, en⟩ := rg_nI (h := 7) b1 (by decide)
  obtain ⟨P, hP8, eP⟩ := rg_nI (h := 8) b5 (by decide)
  have fin : ∀ (pc' m' : Nat → Int32) (Q : Nat), Q ≤ 8 → m' 4 = nI Q → (∀ k : Nat, k < 106 → k ≠ 4 → m' k = m k) → GP pc' m' → HR wets gc gn sc sn rc rn kc kn pc' (nI Q) host rooms night wheels turned m' := by
    intro pc' m' Q hQ e4 e hgp
    refine ⟨?_, hW.congr (fun k hk => e k (by omega) (by omega)), hG.congr b1 (fun k hk => e k (by omega) (by omega)), hS.congr b2 (fun k hk => e k (by omega) (by omega)), hN.congr b3 (fun k hk => e k (by omega) (by omega)), hK.congr b4 (fun k hk => e k (by omega) (by omega)), hgp⟩
    unfold G0
    rw [e 0 (by decide) (by decide), e 1 (by decide) (by decide), e 2 (by decide) (by decide), e 3 (by decide) (by decide), e 23 (by decide) (by decide), e 24 (by decide) (by decide), e 22 (by decide) (by decide), e 20 (by decide) (by decide), e 21 (by decide) (by decide), e4]
    exact ⟨a1, a2, a3, a4, rfl, a6, a7, a8, a9, a10, b1, b2, b3, b4, ⟨by rw [nI_toInt (by omega)]; omega, by rw [nI_toInt (by omega)]; omega⟩, b6, b7, b8, b9, b10⟩
  by_cases hf : P < 8
  · refine ⟨_, nI (P + 1), _, ?_, q_save eP hf, fin _ _ (P + 1) (by omega) (up_same _ _ _) (fun k h1 h2 => ?_) (GP.push (pc := pc) hcr b8 en hn hf (fun r hr => hP r (by rw [eP, nI_toInt (by omega)]; omega))), fun k h1 h2 => ?_⟩
    · unfold f_X1_keep
      rw [q_free (M := 8) (most := 8) rfl (a5.trans eP) hf (by decide), b_some, if_pos rfl, q_keep17 pc (a1.trans en) hn (a5.trans eP) hf]
    · rw [up_ne _ _ h2, cp_out (by omega)]
    · rw [up_ne _ _ h2, cp_out (by omega)]
  · have e8 : P = 8 := by omega
    subst e8
    have ein : ∀ j, j < 126 → upd (cp m m 106 124 126) 4 7 (106 + j) = m (124 + j) := fun j hj => by rw [up_ne _ _ (by omega), cp_in hj]
    have eout : ∀ k, k < 106 → k ≠ 4 → upd (cp m m 106 124 126) 4 7 k = m k := fun k h1 h2 => by rw [up_ne _ _ h2, cp_out (by omega)]
    have hs := q_save8 eP
    generalize upd (cp m m 106 124 126) 4 7 = mA at ein eout hs
    have hcrA : CR wets gc gn host rooms night wheels turned mA := hcr.same (fun k h1 h2 => eout k (by omega) h2)
    have hpA : ∀ r, r < 7 → GP1 (va_cpy pc pc 24 0 168) mA r := fun r hr => by
      refine (hP (r + 1) (by rw [eP, nI_toInt (by omega)]; omega)).move b1 (eout 0 (by decide) (by decide)) (eout 24 (by decide) (by decide)) (fun j hj => ?_) (fun j hj => ?_)
      · unfold va_cpy
        rw [if_pos (by omega), show 24 + (24 * r + j - 0) = 24 * (r + 1) + j by omega]
      · rw [show 106 + 18 * r + j = 106 + (18 * r + j) by omega, ein _ (by omega), show 124 + (18 * r + j) = 106 + 18 * (r + 1) + j by omega]
    refine ⟨_, nI 8, _, ?_, hs, fin _ _ 8 (by omega) (up_same _ _ _) (fun k h1 h2 => ?_) (GP.push (pc := va_cpy pc pc 24 0 168) (P := 7) hcrA (by rw [eout 22 (by decide) (by decide)]; exact b8) ((eout 0 (by decide) (by decide)).trans en) hn (by decide) hpA), fun k h1 h2 => ?_⟩
    · unfold f_X1_keep
      rw [q_full (M := 8) (most := 8) rfl (a5.trans eP) (Nat.le_refl 8) (by decide), b_some, if_neg (by decide), q_drop (a5.trans eP), b_some, q_keep17 (P := 7) _ (a1.trans en) hn rfl (by decide)]
    · rw [up_ne _ _ h2, cp_out (by omega), eout k h1 h2]
    · rw [up_ne _ _ h2, cp_out (by omega), eout k h1 h2]
/-- cells of a house after its travellers changed -/
theorem HR.cr {wets gc gc' sc rc kc pc m m' : Nat → Int32} {gn sn rn kn pn host rooms night wheels turned wheels' turned' : Int32} (h : HR wets gc gn sc sn rc rn kc kn pc pn host rooms night wheels turned m) (hc : CR wets gc' gn host rooms night wheels' turned' m') (e : ∀ k : Nat, k < 5 ∨ 22 ≤ k → m' k = m k) : HR wets gc' gn sc sn rc rn kc kn pc pn host rooms night wheels' turned' m' := by
  obtain ⟨⟨a1, a2, a3, a4, a5, a6, a7, a8, a9, a10, b1, b2, b3, b4, b5, b6, b7, b8, b9, b10⟩, hW, hG, hS, hN, hK, hP⟩ := h
  obtain ⟨c1, c2, c3, c4, c5, c6, d1, d2, d3, d4, d5, d6, hW', hG'⟩ := hc
  refine ⟨?_, hW', hG', hS.congr b2 (fun k hk => e k (by omega)), hN.congr b3 (fun k hk => e k (by omega)), hK.congr b4 (fun k hk => e k (by omega)), hP.congr b1 b5 (fun k hk => e k (by omega))⟩
  refine ⟨c1, ?_, ?_, ?_, ?_, c2, c3, c4, c5, c6, d1, ?_, ?_, ?_, ?_, d2, d3, ?_, d5, d6⟩
  · rw [e 1 (by omega)]; exact a2
  · rw [e 2 (by omega)]; exact a3
  · rw [e 3 (by omega)]; exact a4
  · rw [e 4 (by omega)]; exact a5
  · rw [e 1 (by omega)]; exact b2
  · rw [e 2 (by omega)]; exact b3
  · rw [e 3 (by omega)]; exact b4
  · rw [e 4 (by omega)]; exact b5
  · rw [e 22 (by omega)]; exact b8
