/-- nights that go by -/
theorem HR.sleep {wets gc sc rc kc pc m : Nat → Int32} {gn sn rn kn pn host rooms night wheels turned v : Int32} (h : HR wets gc gn sc sn rc rn kc kn pc pn host rooms night wheels turned m) (hv : rg v 0 9999) : HR wets gc gn sc sn rc rn kc kn pc pn host rooms v 0 turned (upd (upd m 22 v) 20 0) := by
  obtain ⟨⟨a1, a2, a3, a4, a5, a6, a7, a8, a9, a10, b1, b2, b3, b4, b5, b6, b7, b8, b9, b10⟩, hW, hG, hS, hN, hK, hP⟩ := h
  have e : ∀ k : Nat, k ≠ 22 → k ≠ 20 → upd (upd m 22 v) 20 0 k = m k := fun k h1 h2 => by rw [up_ne _ _ h2, up_ne _ _ h1]
  have e22 : upd (upd m 22 v) 20 0 22 = v := by rw [up_ne _ _ (by decide), up_same]
  have e20 : upd (upd m 22 v) 20 0 20 = 0 := up_same _ _ _
  generalize upd (upd m 22 v) 20 0 = m' at e e22 e20 ⊢
  refine ⟨?_, hW.congr (fun k hk => e k (by omega) (by omega)), hG.congr b1 (fun k hk => e k (by omega) (by omega)), hS.congr b2 (fun k hk => e k (by omega) (by omega)), hN.congr b3 (fun k hk => e k (by omega) (by omega)), hK.congr b4 (fun k hk => e k (by omega) (by omega)), hP.congr b1 b5 (fun k hk => e k (by omega) (by omega))⟩
  unfold G0
  rw [e 0 (by decide) (by decide), e 1 (by decide) (by decide), e 2 (by decide) (by decide), e 3 (by decide) (by decide), e 4 (by decide) (by decide), e 23 (by decide) (by decide), e 24 (by decide) (by decide), e 21 (by decide) (by decide), e22, e20]
  exact ⟨a1, a2, a3, a4, a5, a6, a7, rfl, rfl, a10, b1, b2, b3, b4, b5, b6, b7, hv, rz (by decide), b10⟩
/-- the travellers as they were, so many of them -/
def gr (pc gc : Nat → Int32) (P : Nat) : Nat → Nat → Int32
  | 0 => gc
  | i + 1 => upd (upd (upd (gr pc gc P i) (4 * i + 1) (pc (P * 24 + (3 + 3 * i)))) (4 * i + 2) (pc (P * 24 + (3 + 3 * i + 1)))) (4 * i + 3) (pc (P * 24 + (3 + 3 * i + 2)))
theorem gr_kind (pc gc : Nat → Int32) (P : Nat) : ∀ (n i : Nat), gr pc gc P n (4 * i) = gc (4 * i) := by
  intro n
  induction n with
  | zero => intro i; rfl
  | succ n ih => intro i; rw [gr, up_ne _ _ (by omega), up_ne _ _ (by omega), up_ne _ _ (by omega), ih i]
theorem gr_in (pc gc : Nat → Int32) (P : Nat) : ∀ (n i : Nat), i < n → gr pc gc P n (4 * i + 1) = pc (P * 24 + (3 + 3 * i)) ∧ gr pc gc P n (4 * i + 2) = pc (P * 24 + (3 + 3 * i + 1)) ∧ gr pc gc P n (4 * i + 3) = pc (P * 24 + (3 + 3 * i + 2)) := by
  intro n
  induction n with
  | zero => intro i h; omega
  | succ n ih =>
    intro i hi
    rw [gr]
    by_cases e : i = n
    · subst e
      refine ⟨?_, ?_, ?_⟩
      · rw [up_ne _ _ (by omega), up_ne _ _ (by omega), up_same]
      · rw [up_ne _ _ (by omega), up_same]
      · rw [up_same]
    · obtain ⟨h1, h2, h3⟩ := ih i (by omega)
      refine ⟨?_, ?_, ?_⟩
      · rw [up_ne _ _ (by omega), up_ne _ _ (by omega), up_ne _ _ (by omega), h1]
      · rw [up_ne _ _ (by omega), up_ne _ _ (by omega), up_ne _ _ (by omega), h2]
      · rw [up_ne _ _ (by omega), up_ne _ _ (by omega), up_ne _ _ (by omega), h3]
theorem gb69 {gn nt wh tu : Int32} {n i P R fu : Nat} (k : (Nat → Int32) → Int32 → Int32 → Int32 → Int32 → Int32 → Int32 → Option ((Nat → Int32) × Int32 × Int32 × Int32 × Int32)) (pc gc : Nat → Int32) (hg : gn = nI n) (hn : n ≤ 7) (hi : i < n) (hP : P < R) (hR : R ≤ 8) : f_X1_goBack_b69 k gn pc (fu + 4) gc (nI R) nt wh tu (nI P) (nI i) (nI 1) = k (upd (upd (upd gc (4 * i + 1) (pc (P * 24 + (3 + 3 * i)))) (4 * i + 2) (pc (P * 24 + (3 + 3 * i + 1)))) (4 * i + 3) (pc (P * 24 + (3 + 3 * i + 2)))) (nI R) nt wh tu (nI P) (nI (i + 1)) := by
  rw [f_X1_goBack_b69, if_neg (show ¬ (3 : Int32) < nI 1 by decide), q_col i 1 (by decide), b_some, q_pcell pc rfl hP hR (by omega), b_some, show f_X5_put 28 4 gn gc (nI i) (nI 1) _ = some (upd gc (4 * i + 1) _) from gput1 gc _ hg hn hi, b_some, show nI 1 + 1 = nI 2 from rfl]
  rw [f_X1_goBack_b69, if_neg (show ¬ (3 : Int32) < nI 2 by decide), q_col i 2 (by decide), b_some, q_pcell pc rfl hP hR (by omega), b_some, show f_X5_put 28 4 gn _ (nI i) (nI 2) _ = some (upd _ (4 * i + 2) _) from gput2 _ _ hg hn hi, b_some, show nI 2 + 1 = nI 3 from rfl]
  rw [f_X1_goBack_b69, if_neg (show ¬ (3 : Int32) < nI 3 by decide), q_col i 3 (by decide), b_some, q_pcell pc rfl hP hR (by omega), b_some, show f_X5_put 28 4 gn _ (nI i) (nI 3) _ = some (upd _ (4 * i + 3) _) from gput3 _ _ hg hn hi, b_some, show nI 3 + 1 = nI 4 from rfl]
  rw [f_X1_goBack_b69, if_pos (show (3 : Int32) < nI 4 by decide), show nI i + 1 = nI (i + 1) from na_add i 1]
  rfl
theorem gb56 {gn nt wh tu : Int32} {n P : Nat} (pc gc : Nat → Int32) (hg : gn = nI n) (hn : n ≤ 7) (hP : P < 8) : ∀ (d i fu : Nat), i + d = n → d < fu → f_X1_goBack_b56 gn pc fu (gr pc gc P i) (nI (P + 1)) nt wh tu (nI P) (nI i) = some (gr pc gc P n, nI P, nt, wh, tu) := by
  intro d
  induction d with
  | zero =>
    intro i fu h1 h2
    obtain ⟨fu, rfl⟩ : ∃ k, fu = k + 1 := ⟨fu - 1, by omega⟩
    rw [f_X1_goBack_b56, hg, if_pos (nI_le (by omega) (by omega)), show i = n by omega]
    unfold f_X5_dropLast
    rw [if_neg (show ¬ nI (P + 1) ≤ (0 : Int32) from nI_ge (a := 0) (b := P + 1) (by omega) (by omega)), show nI (P + 1) - (1 : Int32) = nI P from na_sub (a := P + 1) (b := 1) (by omega)]; rfl
  | succ d ih =>
    intro i fu h1 h2
    obtain ⟨fu, rfl⟩ : ∃ k, fu = k + 1 := ⟨fu - 1, by omega⟩
    rw [f_X1_goBack_b56, if_neg (show ¬ gn ≤ nI i by rw [hg]; exact nI_ge (by omega) (by omega)), show s_fuel = 5996 + 4 from rfl, show (1 : Int32) = nI 1 from rfl, gb69 _ _ _ hg hn (by omega) (by omega) (by omega)]
    exact ih (i + 1) fu (by omega) (by omega)
theorem q_goBack {gn pn : Int32} {n P : Nat} (pc gc : Nat → Int32) (a b c : Int32) (hg : gn = nI n) (hn : n ≤ 7) (hp : pn = nI (P + 1)) (hP : P < 8) : f_X1_goBack gn pc gc pn a b c = some (gr pc gc P n, nI P, pc (P * 24 + 0), pc (P * 24 + 1), pc (P * 24 + 2)) := by
  unfold f_X1_goBack
  rw [hp, show nI (P + 1) - (1 : Int32) = nI P from na_sub (a := P + 1) (b := 1) (by omega), if_pos (show (0 : Int32) ≤ nI P from nI_le (a := 0) (by omega) (by omega))]
  rw [show (0 : Int32) = nI 0 from rfl, q_pcell pc rfl (by omega) (by omega) (by decide), b_some, show (1 : Int32) = nI 1 from rfl, q_pcell pc rfl (by omega) (by omega) (by decide), b_some, show (2 : Int32) = nI 2 from rfl, q_pcell pc rfl (by omega) (by omega) (by decide), b_some]
  exact gb56 pc gc hg hn hP n 0 s_fuel (by omega) (by unfold s_fuel; omega)
theorem q_undo26 {m r : Nat → Int32} {P : Nat} (h4 : m 4 = nI P) (hP : P < 8) : ∀ (d j fu : Nat), j + d = 18 → d < fu → f_X9_undo_b26 fu (cp m m 5 (106 + 18 * P) j) r (nI j) = some (m (106 + 18 * P + 17), cp m m 5 (106 + 18 * P) 18, r) := by
  intro d
  induction d with
  | zero =>
    intro j fu h1 h2
    obtain ⟨fu, rfl⟩ : ∃ k, fu = k + 1 := ⟨fu - 1, by omega⟩
    rw [f_X9_undo_b26, show j = 18 by omega, if_pos (show (18 : Int32) ≤ nI 18 by decide), show Int32.toNatClampNeg 22 = 5 + 17 from rfl, cp_in (by decide)]
  | succ d ih =>
    intro j fu h1 h2
    obtain ⟨fu, rfl⟩ : ∃ k, fu = k + 1 := ⟨fu - 1, by omega⟩
    rw [f_X9_undo_b26, if_neg (show ¬ (18 : Int32) ≤ nI j from nI_ge (b := 18) (by omega) (by decide)), show Int32.toNatClampNeg 4 = 4 from rfl, cp_out (show 4 < 5 ∨ 5 + j ≤ 4 by omega), h4, show (5 : Int32) + nI j = nI (5 + j) from na_add 5 j, show (18 : Int32) * nI P = nI (18 * P) from na_mul 18 P, show (106 : Int32) + nI (18 * P) = nI (106 + 18 * P) from na_add 106 (18 * P), na_add, if_pos (nI_in (by omega) (by decide)), if_pos (nI_in (by omega) (by decide)), nI_clamp (by omega), nI_clamp (by omega), cp_out (show 106 + 18 * P + j < 5 ∨ 5 + j ≤ 106 + 18 * P + j by omega), cp_step, show nI j + 1 = nI (j + 1) from na_add j 1]
    exact ih (j + 1) fu (by omega) (by omega)
/-- undoing: both do the same -/
theorem HR.undo {wets gc sc rc kc pc m : Nat → Int32} {gn sn rn kn pn host rooms night wheels turned : Int32} {P : Nat} (h : HR wets gc gn sc sn rc rn kc kn pc pn host rooms night wheels turned m) (eP : m 4 = nI (P + 1)) (hP8 : P < 8) (r : Nat → Int32) : ∃ (gc' : Nat → Int32) (pn' night' wheels' turned' : Int32) (m' : Nat → Int32), f_X1_goBack gn pc gc pn night wheels turned = some (gc', pn', night', wheels', turned') ∧ f_X9_undo_b26 s_fuel (upd m 4 (nI P)) r 0 = some (night', m', r) ∧ HR wets gc' gn sc sn rc rn kc kn pc pn' host rooms night' wheels' turned' m' := by
  obtain ⟨⟨a1, a2, a3, a4, a5, a6, a7, a8, a9, a10, b1, b2, b3, b4, b5, b6, b7, b8, b9, b10⟩, hW, hG, hS, hN, hK, hP⟩ := h
  obtain ⟨n, hn, en⟩ := rg_nI (h := 7) b1 (by decide)
  have hpr := hP P (by rw [eP, nI_toInt (by omega)]; omega)
  obtain ⟨p1, p2, p3, p4, p5, p6, p7, p8, p9, p10⟩ := hpr
  rw [Nat.mul_comm 24 P] at p1 p2 p3 p10
  have hu := q_undo26 (m := upd m 4 (nI P)) (r := r) (up_same _ _ _) hP8 18 0 s_fuel (by omega) (by unfold s_fuel; omega)
  rw [cp_zero, up_ne _ _ (show 106 + 18 * P + 17 ≠ 4 by omega)] at hu
  have e4 : cp (upd m 4 (nI P)) (upd m 4 (nI P)) 5 (106 + 18 * P) 18 4 = nI P := by rw [cp_out (by omega), up_same]
  have eo : ∀ k, k ≠ 4 → (k < 5 ∨ 23 ≤ k) → cp (upd m 4 (nI P)) (upd m 4 (nI P)) 5 (106 + 18 * P) 18 k = m k := fun k h1 h2 => by rw [cp_out (by omega), up_ne _ _ h1]
  have ei : ∀ j, j < 18 → cp (upd m 4 (nI P)) (upd m 4 (nI P)) 5 (106 + 18 * P) 18 (5 + j) = m (106 + 18 * P + j) := fun j hj => by rw [cp_in hj, up_ne _ _ (by omega)]
  refine ⟨_, _, _, _, _, cp (upd m 4 (nI P)) (upd m 4 (nI P)) 5 (106 + 18 * P) 18, q_goBack pc gc night wheels turned (a1.trans en) hn (a5.trans eP) hP8, ?_, ?_⟩
  · rw [show P * 24 + 0 = P * 24 from rfl, p1]; exact hu
  generalize cp (upd m 4 (nI P)) (upd m 4 (nI P)) 5 (106 + 18 * P) 18 = m' at e4 eo ei ⊢
  have e22 : m' 22 = m (106 + 18 * P + 17) := ei 17 (by decide)
  have e20 : m' 20 = m (106 + 18 * P + 15) := ei 15 (by decide)
  have e21 : m' 21 = m (106 + 18 * P + 16) := ei 16 (by decide)
  have e19 : m' 19 = m (106 + 18 * P + 14) := ei 14 (by decide)
  refine ⟨?_, hW.congr (fun k hk => eo k (by omega) (by omega)), ?_, hS.congr b2 (fun k hk => eo k (by omega) (by omega)), hN.congr b3 (fun k hk => eo k (by omega) (by omega)), hK.congr b4 (fun k hk => eo k (by omega) (by omega)), ?_⟩
  · unfold G0
    rw [eo 0 (by decide) (by decide), eo 1 (by decide) (by decide), eo 2 (by decide) (by decide), eo 3 (by decide) (by decide), eo 23 (by decide) (by decide), eo 24 (by decide) (by decide), e4, e22, e20, e21, show P * 24 + 0 = P * 24 from rfl]
    exact ⟨a1, a2, a3, a4, rfl, a6, a7, p1, p2, p3, b1, b2, b3, b4, ⟨by rw [nI_toInt (by omega)]; omega, by rw [nI_toInt (by omega)]; omega⟩, b6, b7, p4, p5, p6⟩
  · unfold GG
    rw [eo 0 (by decide) (by decide), eo 24 (by decide) (by decide), e19]
    refine ⟨p7, p8, p9, fun i hi => ?_⟩
    obtain ⟨q1, q2, q3, q4, q5⟩ := p10 i hi
    obtain ⟨g1, g2, g3, g4, g5, g6, g7⟩ := hG.2.2.2 i hi
    have hi' := hi
    rw [en, nI_toInt (by omega)] at hi'
    obtain ⟨t1, t2, t3⟩ := gr_in pc gc P n i (by omega)
    rw [gr_kind, t1, t2, t3, eo (31 + i) (by omega) (by omega), ei i (by omega), show 12 + i = 5 + (7 + i) by omega, ei (7 + i) (by omega)]
    exact ⟨g1, q1, q2, q3, g5, q4, q5⟩
  · intro r' hr'
    rw [e4, nI_toInt (by omega)] at hr'
    refine (hP r' (by rw [eP, nI_toInt (by omega)]; omega)).move b1 (eo 0 (by decide) (by decide)) (eo 24 (by decide) (by decide)) (fun j hj => rfl) (fun j hj => eo _ (by omega) (by omega))
