/-! the items of a text -/
def OUT (n e : Nat) (st nx sta tk A L K : Int32) : Prop := (st = 0 ∧ sta = A ∧ (∃ a : Nat, a ≤ n ∧ A = nI a) ∧ (tk = 0 ∨ (tk = 1 ∧ ¬ K = (3 : Int32)))) ∨ (st = 1 ∧ tk = 1 ∧ K = (3 : Int32) ∧ ∃ a' l' : Nat, A = nI a' ∧ L = nI l' ∧ nx = nI (a' + l') ∧ e < a' + l' ∧ a' + l' ≤ n)
section QIT
variable {cb mb : Nat → Int32} {B : Nat → Nat} {n : Nat}
theorem out_stop {p a l k v e : Nat} (hT : TK cb mb B n p a l k v) (he : e ≤ p) : OUT n e (bi (decide (k = 3))) (nI (a + l)) (nI a) 1 (nI a) (nI l) (nI k) := by
  obtain ⟨-, -, t1, t2, t3, t4, -⟩ := hT
  by_cases z : k = 3
  · refine Or.inr ⟨by rw [decide_eq_true z] <;> rfl, rfl, by rw [z] <;> rfl, a, l, rfl, rfl, rfl, ?_, t2⟩
    have : l ≠ 0 := fun q => by have := t4.mpr q; omega
    omega
  · exact Or.inl ⟨by rw [decide_eq_false z] <;> rfl, rfl, ⟨a, by omega, rfl⟩, Or.inr ⟨rfl, fun q => z ((nI_eq (by omega) (by decide)).mp (show nI k = nI 3 from q))⟩⟩
theorem out_no {a e : Nat} {nx L K : Int32} (ha : a ≤ n) : OUT n e 0 nx (nI a) 0 (nI a) L K := Or.inl ⟨rfl, rfl, ⟨a, ha, rfl⟩, Or.inl rfl⟩
theorem q_isNum {k v : Nat} {y : Int32} (hk : k ≤ 4) (hy : k = 2 → y = nI v) (lo hi : Int32) : f_X6_isNumberWithin (nI k) y lo hi = some (if k = 2 ∧ ¬ ib (nI v) lo hi = 0 then 1 else 0) := by
  unfold f_X6_isNumberWithin
  by_cases z : k = 2
  · rw [if_pos (show nI k = (2 : Int32) by rw [z] <;> rfl), q_within, b_some, hy z]
    by_cases w : ib (nI v) lo hi = 0
    · rw [if_pos w, if_neg (fun q => by exact q.2 w)]
    · rw [if_neg w, if_pos ⟨z, w⟩]
  · rw [if_neg (show ¬ nI k = (2 : Int32) from fun q => z ((nI_eq (by omega) (by decide)).mp (show nI k = nI 2 from q))), if_neg (fun q => by exact z q.1)]
theorem nI_0le {v : Nat} (hv : v ≤ 99) : (0 : Int32) ≤ nI v := nI_le (a := 0) (Nat.zero_le v) (by omega)
theorem no_m1 : ¬ (0 : Int32) ≤ -1 := by decide
theorem m1_lt : (-1 : Int32) < 0 := by decide
section QW
variable {gc : Nat → Int32} {gn host rooms night wheels turned : Int32} {e : Nat}
theorem q_wetLoop (h : BY cb mb B n) : ∀ (d j p a l k v fu fu9 : Nat) (wets anew vals : Nat → Int32) (s t x : Int32), j + d = 6 → d < fu → d < fu9 → TK cb mb B n p a l k v → e ≤ p → SR wets gc gn host rooms night wheels turned anew → ∃ (st nx sta to nu : Int32) (wets' : Nat → Int32) (tk A L K V : Int32) (anew' vals' : Nat → Int32), f_X6_wetItem_b2 cb (nI n) fu (nI p) s t x wets (nI j) = some (st, nx, sta, to, nu, wets') ∧ f_X9_takesWet_b6 mb (nI n) fu9 (nI a) (nI l) (nI k) (nI v) anew vals (nI j) = some (tk, A, L, K, V, anew', vals') ∧ OUT n e st nx sta tk A L K ∧ (st = 0 ∨ SR wets' gc gn host rooms night wheels turned anew') := by
  intro d
  induction d with
  | zero =>
    intro j p a l k v fu fu9 wets anew vals s t x h1 h2 h3 hT hep hS
    obtain ⟨fu, rfl⟩ : ∃ k, fu = k + 1 := ⟨fu - 1, by omega⟩
    obtain ⟨fu9, rfl⟩ : ∃ k, fu9 = k + 1 := ⟨fu9 - 1, by omega⟩
    have e6 : j = 6 := by omega
    subst e6
    obtain ⟨y, e1⟩ := q_stops hT s t x
    have e8 : f_X6_wetItem_b2 cb (nI n) (fu + 1) (nI p) s t x wets (nI 6) = some (bi (decide (k = 3)), nI (a + l), nI a, nI k, y, wets) := by
      rw [f_X6_wetItem_b2, if_pos (show (6 : Int32) ≤ nI 6 by decide), e1, b_some]
      dsimp only
      rw [if_pos (bi01 _)]
    have ho := out_stop (e := e) hT hep
    have hk4 := hT.2.2.2.2.1
    by_cases z : k = 3
    · refine ⟨_, _, _, _, _, wets, 1, nI a, nI l, nI k, nI v, anew, vals, e8, ?_, ho, Or.inr hS⟩
      rw [f_X9_takesWet_b6, if_neg (show ¬ nI 6 = (0 : Int32) by decide), if_pos (show nI k = (3 : Int32) by rw [z] <;> rfl)]
    · refine ⟨_, _, _, _, _, wets, 0, nI a, nI l, nI k, nI v, anew, vals, e8, ?_, ?_, Or.inr hS⟩
      · rw [f_X9_takesWet_b6, if_neg (show ¬ nI 6 = (0 : Int32) by decide), if_neg (show ¬ nI k = (3 : Int32) from fun q => z ((nI_eq (by omega) (by decide)).mp (show nI k = nI 3 from q)))]
        unfold f_X9_takesWet_b18
        rw [if_pos (show nI 6 = (6 : Int32) from rfl)]
      · rw [decide_eq_false z]
        exact out_no (by have := hT.2.2.2.1; omega)
  | succ d ih =>
    intro j p a l k v fu fu9 wets anew vals s t x h1 h2 h3 hT hep hS
    obtain ⟨fu, rfl⟩ : ∃ k, fu = k + 1 := ⟨fu - 1, by omega⟩
    obtain ⟨fu9, rfl⟩ : ∃ k, fu9 = k + 1 := ⟨fu9 - 1, by omega⟩
    obtain ⟨y, e1, e2⟩ := hT.2.1 s t x
    have hk4 := hT.2.2.2.2.1
    have hal := hT.2.2.2.1
    have hpa := hT.2.2.1
    have hv := hT.2.2.2.2.2.2
    obtain ⟨a', l', k', v', hT'⟩ := tk_ex h (p := a + l) hal
    have common : ∃ (st nx sta to nu : Int32) (wets' : Nat → Int32) (tk A L K V : Int32) (anew' vals' : Nat → Int32), f_X6_wetItem_b26 (f_X6_wetItem_b2 cb (nI n) fu) cb (nI n) (nI (a + l)) (nI a) (nI k) y wets (nI j) = some (st, nx, sta, to, nu, wets') ∧ f_X9_takesWet_b18 (f_X9_takesWet_b6 mb (nI n) fu9) mb (nI n) (nI a) (nI l) (nI k) (nI v) anew vals (nI j) = some (tk, A, L, K, V, anew', vals') ∧ OUT n e st nx sta tk A L K ∧ (st = 0 ∨ SR wets' gc gn host rooms night wheels turned anew') := by
      have hj6 : ¬ nI j = (6 : Int32) := fun q => by have := (nI_eq (by omega) (by decide)).mp (show nI j = nI 6 from q); omega
      have htk := q_takes hT hT' (j := 0) (by decide) 0 4 vals
      by_cases ok : k = 2 ∧ ¬ ib (nI v) 0 4 = 0
      · obtain ⟨st, nx, sta, to, nu, wets', tk, A, L, K, V, anew', vals', f1, f2, f3, f4⟩ := ih (j + 1) (a + l) a' l' k' v' fu fu9 (upd wets j (nI v)) (upd anew (25 + j) (nI v)) (upd vals 0 (nI v)) (nI a) (nI k) y (by omega) (by omega) (by omega) hT' (by omega) (hS.wet (by omega) (ibn ok.2))
        refine ⟨st, nx, sta, to, nu, wets', tk, A, L, K, V, anew', vals', ?_, ?_, f3, f4⟩
        · unfold f_X6_wetItem_b26
          rw [q_isNum hk4 e2, if_pos ok, b_some, if_neg no10, e2 ok.1, q_setWet _ _ (by omega), b_some, show nI j + (1 : Int32) = nI (j + 1) from na_add j 1]
          rw [e2 ok.1] at f1; exact f1
        · unfold f_X9_takesWet_b18
          rw [if_neg hj6, show f_X9_takes mb (nI n) (nI a) (nI l) (nI k) (nI v) vals (0 : Int32) (0 : Int32) (4 : Int32) = _ from htk, if_pos ok, b_some]
          dsimp only
          rw [if_neg no10, show (25 : Int32) + nI j = nI (25 + j) from na_add 25 j, if_pos (nI_in (by omega) (by decide)), nI_clamp (by omega), show Int32.toNatClampNeg 0 = 0 from rfl, up_same, show nI j + (1 : Int32) = nI (j + 1) from na_add j 1]
          exact f2
      · refine ⟨0, nI (a + l), nI a, nI k, y, wets, 0, nI a, nI l, nI k, nI v, anew, vals, ?_, ?_, out_no (by omega), Or.inl rfl⟩
        · unfold f_X6_wetItem_b26
          rw [q_isNum hk4 e2, if_neg ok, b_some, if_pos rfl]
        · unfold f_X9_takesWet_b18
          rw [if_neg hj6, show f_X9_takes mb (nI n) (nI a) (nI l) (nI k) (nI v) vals (0 : Int32) (0 : Int32) (4 : Int32) = _ from htk, if_neg ok, b_some]
          dsimp only
          rw [if_pos rfl]
    have e8 : f_X6_wetItem_b2 cb (nI n) (fu + 1) (nI p) s t x wets (nI j) = if nI j ≤ 0 then f_X6_wetItem_b26 (f_X6_wetItem_b2 cb (nI n) fu) cb (nI n) (nI (a + l)) (nI a) (nI k) y wets (nI j) else (if nI k = (3 : Int32) then some ((1 : Int32), nI (a + l), nI a, nI k, y, wets) else f_X6_wetItem_b26 (f_X6_wetItem_b2 cb (nI n) fu) cb (nI n) (nI (a + l)) (nI a) (nI k) y wets (nI j)) := by
      rw [f_X6_wetItem_b2, if_neg (show ¬ (6 : Int32) ≤ nI j from nI_ge (b := 6) (by omega) (by decide)), e1, b_some]
    by_cases j0 : j = 0
    · obtain ⟨st, nx, sta, to, nu, wets', tk, A, L, K, V, anew', vals', f1, f2, f3, f4⟩ := common
      refine ⟨st, nx, sta, to, nu, wets', tk, A, L, K, V, anew', vals', ?_, ?_, f3, f4⟩
      · rw [e8, if_pos (show nI j ≤ (0 : Int32) by rw [j0]; decide)]; exact f1
      · rw [f_X9_takesWet_b6, if_pos (show nI j = (0 : Int32) by rw [j0] <;> rfl)]; exact f2
    · have hj0 : ¬ nI j = (0 : Int32) := fun q => by have := (nI_eq (by omega) (by decide)).mp (show nI j = nI 0 from q); omega
      by_cases z : k = 3
      · have hk3 : nI k = (3 : Int32) := by rw [z] <;> rfl
        refine ⟨1, nI (a + l), nI a, nI k, y, wets, 1, nI a, nI l, nI k, nI v, anew, vals, ?_, ?_, ?_, Or.inr hS⟩
        · rw [e8, if_neg (nI_nle (by omega) (by omega)), if_pos hk3]
        · rw [f_X9_takesWet_b6, if_neg hj0, if_pos hk3]
        · have := out_stop (e := e) hT hep
          rw [decide_eq_true z] at this
          exact this
      · have hk3 : ¬ nI k = (3 : Int32) := fun q => z ((nI_eq (by omega) (by decide)).mp (show nI k = nI 3 from q))
        obtain ⟨st, nx, sta, to, nu, wets', tk, A, L, K, V, anew', vals', f1, f2, f3, f4⟩ := common
        refine ⟨st, nx, sta, to, nu, wets', tk, A, L, K, V, anew', vals', ?_, ?_, f3, f4⟩
        · rw [e8, if_neg (nI_nle (by omega) (by omega)), if_neg hk3]; exact f1
        · rw [f_X9_takesWet_b6, if_neg hj0, if_neg hk3]; exact f2
end QW
section QI
variable {wets gc anew vals : Nat → Int32} {gn host rooms night wheels turned y0 : Int32} {p0 a0 l0 k0 v0 : Nat}
theorem i_wet (h : BY cb mb B n) (hT : TK cb mb B n p0 a0 l0 k0 v0) (hS : SR wets gc gn host rooms night wheels turned anew) : ∃ (st nx sta to nu : Int32) (wets' : Nat → Int32) (tk A L K V : Int32) (anew' vals' : Nat → Int32), f_X6_wetItem cb (nI n) (nI (a0 + l0)) (nI a0) (nI k0) y0 wets = some (st, nx, sta, to, nu, wets') ∧ f_X9_takesWet mb (nI n) (nI a0) (nI l0) (nI k0) (nI v0) anew vals = some (tk, A, L, K, V, anew', vals') ∧ OUT n (a0 + l0) st nx sta tk A L K ∧ (st = 0 ∨ SR wets' gc gn host rooms night wheels turned anew') := by
  obtain ⟨a, l, k, v, hT1⟩ := tk_ex h (p := a0 + l0) hT.2.2.2.1
  obtain ⟨st, nx, sta, to, nu, wets', tk, A, L, K, V, anew', vals', f1, f2, f3, f4⟩ := q_wetLoop (e := a0 + l0) h 6 0 (a0 + l0) a l k v s_fuel s_fuel wets anew vals (nI a0) (nI k0) y0 (by omega) (by unfold s_fuel; omega) (by unfold s_fuel; omega) hT1 (Nat.le_refl _) hS
  refine ⟨st, nx, sta, to, nu, wets', tk, A, L, K, V, anew', vals', f1, ?_, f3, f4⟩
  unfold f_X9_takesWet
  rw [q_behind hT hT1, b_some]
  exact f2
theorem i_one (h : BY cb mb B n) (hT : TK cb mb B n p0 a0 l0 k0 v0) (hS : SR wets gc gn host rooms night wheels turned anew) : ∃ (st nx sta to nu : Int32) (gc' : Nat → Int32) (gn' : Int32) (tk A L K V : Int32) (anew' vals' : Nat → Int32), f_X6_guestItem cb (nI n) (nI (a0 + l0)) (nI a0) (nI k0) y0 gc gn = some (st, nx, sta, to, nu, gc', gn') ∧ f_X9_takesOne mb (nI n) (nI a0) (nI l0) (nI k0) (nI v0) anew vals = some (tk, A, L, K, V, anew', vals') ∧ OUT n (a0 + l0) st nx sta tk A L K ∧ (st = 0 ∨ SR wets gc' gn' host rooms night wheels turned anew') := by
  obtain ⟨g, hg7, em, eg⟩ := hS.num
  have hal0 := hT.2.2.2.1
  by_cases g7 : g = 7
  · refine ⟨0, nI (a0 + l0), nI a0, nI k0, y0, gc, gn, 0, nI a0, nI l0, nI k0, nI v0, anew, vals, ?_, ?_, out_no (by omega), Or.inl rfl⟩
    · unfold f_X6_guestItem
      rw [q_full (M := 7) (most := 7) rfl eg (by omega) (by omega), b_some, if_neg no10]
    · unfold f_X9_takesOne
      rw [show Int32.toNatClampNeg 0 = 0 from rfl, em, if_pos (show nI g = (7 : Int32) by rw [g7] <;> rfl)]
  have hne : ¬ nI g = (7 : Int32) := fun q => g7 ((nI_eq (by omega) (by decide)).mp (show nI g = nI 7 from q))
  obtain ⟨a, l, k, v, hT1⟩ := tk_ex h (p := a0 + l0) hal0
  have hal1 := hT1.2.2.2.1
  obtain ⟨a2, l2, k2, v2, hT2⟩ := tk_ex h (p := a + l) hal1
  have hal2 := hT2.2.2.2.1
  obtain ⟨a3, l3, k3, v3, hT3⟩ := tk_ex h (p := a2 + l2) hal2
  obtain ⟨y1, e1⟩ := q_numW hT1 0 5 (nI a0) (nI k0) y0
  have t1 := q_takes hT1 hT2 (j := 0) (by decide) 0 5 vals
  by_cases ok1 : k = 2 ∧ ¬ ib (nI v) 0 5 = 0
  · obtain ⟨y2, e2⟩ := q_numW hT2 0 9 (nI a) (nI k) y1
    have t2 := q_takes hT2 hT3 (j := 1) (by decide) 0 9 (upd vals 0 (nI v))
    rw [if_pos ok1] at e1 t1
    have c8 : f_X6_guestItem cb (nI n) (nI (a0 + l0)) (nI a0) (nI k0) y0 gc gn = ((f_X6_numberWithin cb (nI n) (nI (a + l)) (nI a) (nI k) y1 (0 : Int32) (9 : Int32)).bind fun q5 => (if 0 ≤ q5.1 then ((f_X1_welcome gc gn (nI v) q5.1).bind fun q7 => ((f_X6_stops cb (nI n) q5.2.1 q5.2.2.1 q5.2.2.2.1 q5.2.2.2.2).bind fun q8 => (if q8.1 = 0 ∨ q8.1 = 1 then some (q8.1, q8.2.1, q8.2.2.1, q8.2.2.2.1, q8.2.2.2.2, q7.2.1, q7.2.2) else none))) else some ((0 : Int32), q5.2.1, q5.2.2.1, q5.2.2.2.1, q5.2.2.2.2, gc, gn))) := by
      unfold f_X6_guestItem
      rw [q_free (M := 7) (most := 7) rfl eg (by omega) (by decide), b_some, if_pos rfl, e1, b_some]
      dsimp only
      rw [if_pos (nI_0le hT1.2.2.2.2.2.2)]
    by_cases ok2 : k2 = 2 ∧ ¬ ib (nI v2) 0 9 = 0
    · obtain ⟨y3, e3⟩ := q_stops hT3 (nI a2) (nI k2) y2
      rw [if_pos ok2] at e2 t2
      refine ⟨bi (decide (k3 = 3)), nI (a3 + l3), nI a3, nI k3, y3, _, _, 1, nI a3, nI l3, nI k3, nI v3, _, upd (upd vals 0 (nI v)) 1 (nI v2), ?_, ?_, out_stop hT3 ?_, Or.inr (hS.one em (by omega) (ibn ok1.2) (ibn ok2.2))⟩
      · rw [c8, e2, b_some]
        dsimp only
        rw [if_pos (nI_0le hT2.2.2.2.2.2.2), q_welcome _ _ _ eg (by omega), b_some, e3, b_some]
        dsimp only
        rw [if_pos (bi01 _)]
      · unfold f_X9_takesOne
        rw [show Int32.toNatClampNeg 0 = 0 from rfl, em, if_neg hne, q_behind hT hT1, b_some]
        dsimp only
        rw [show f_X9_takes mb (nI n) (nI a) (nI l) (nI k) (nI v) vals (0 : Int32) (0 : Int32) (5 : Int32) = _ from t1, b_some]
        dsimp only
        rw [if_neg no10, show f_X9_takes mb (nI n) (nI a2) (nI l2) (nI k2) (nI v2) (upd vals 0 (nI v)) (1 : Int32) (0 : Int32) (9 : Int32) = _ from t2, b_some]
        dsimp only
        rw [if_neg no10, show Int32.toNatClampNeg 1 = 1 from rfl, up_same, up_ne _ _ (show (0 : Nat) ≠ 1 by decide), up_same, q_layOne _ _ (by decide) (by decide) em (by omega), b_some]
      · have := hT1.2.2.1
        have := hT2.2.2.1
        omega
    · rw [if_neg ok2] at e2 t2
      refine ⟨0, nI (a2 + l2), nI a2, nI k2, y2, gc, gn, 0, nI a2, nI l2, nI k2, nI v2, anew, upd vals 0 (nI v), ?_, ?_, out_no (by omega), Or.inl rfl⟩
      · rw [c8, e2, b_some]
        dsimp only
        rw [if_neg no_m1]
      · unfold f_X9_takesOne
        rw [show Int32.toNatClampNeg 0 = 0 from rfl, em, if_neg hne, q_behind hT hT1, b_some]
        dsimp only
        rw [show f_X9_takes mb (nI n) (nI a) (nI l) (nI k) (nI v) vals (0 : Int32) (0 : Int32) (5 : Int32) = _ from t1, b_some]
        dsimp only
        rw [if_neg no10, show f_X9_takes mb (nI n) (nI a2) (nI l2) (nI k2) (nI v2) (upd vals 0 (nI v)) (1 : Int32) (0 : Int32) (9 : Int32) = _ from t2, b_some]
        dsimp only
        rw [if_pos rfl]
  · rw [if_neg ok1] at e1 t1
    refine ⟨0, nI (a + l), nI a, nI k, y1, gc, gn, 0, nI a, nI l, nI k, nI v, anew, vals, ?_, ?_, out_no (by omega), Or.inl rfl⟩
    · unfold f_X6_guestItem
      rw [q_free (M := 7) (most := 7) rfl eg (by omega) (by decide), b_some, if_pos rfl, e1, b_some]
      dsimp only
      rw [if_neg no_m1]
    · unfold f_X9_takesOne
      rw [show Int32.toNatClampNeg 0 = 0 from rfl, em, if_neg hne, q_behind hT hT1, b_some]
      dsimp only
      rw [show f_X9_takes mb (nI n) (nI a) (nI l) (nI k) (nI v) vals (0 : Int32) (0 : Int32) (5 : Int32) = _ from t1, b_some]
      dsimp only
      rw [if_pos rfl]
theorem q_isNumOf {k v I g : Nat} {b : Int32} (hk : k ≤ 4) (hv : v ≤ 99) (em : anew 0 = nI g) (hg7 : g ≤ 7) (eI : anew 19 = nI I) (hI : I < 128) : f_X9_isNumberOf (nI k) (nI v) anew b = some (if k = 2 ∧ ¬ ib (nI v) 0 (anew 0 - 1) = 0 then (if btn (anew 19) v = b then 1 else 0) else 0) := by
  unfold f_X9_isNumberOf
  by_cases z : k = 2
  · rw [if_pos (show nI k = (2 : Int32) by rw [z] <;> rfl), show Int32.toNatClampNeg 0 = 0 from rfl, show (0 : Int64) = (0 : Int32).toInt64 from rfl, q_in, b_some]
    by_cases w : ib (nI v) 0 (anew 0 - 1) = 0
    · rw [if_pos w, if_neg (fun q => by exact q.2 w)]
    · have hw := w
      rw [em] at hw
      obtain ⟨i, hi, e⟩ := q_num rfl hg7 hw
      have hvi : v = i := (nI_eq (by omega) (by omega)).mp e
      subst hvi
      rw [if_neg w, if_pos ⟨z, w⟩, show Int32.toNatClampNeg 19 = 19 from rfl, eI, bt_has ⟨I, hI⟩ ⟨v, by omega⟩, b_some]
      split <;> rfl
  · rw [if_neg (show ¬ nI k = (2 : Int32) from fun q => z ((nI_eq (by omega) (by decide)).mp (show nI k = nI 2 from q))), if_neg (fun q => by exact z q.1)]
theorem q_vnum {v g : Nat} (hv : v ≤ 99) (eg : gn = nI g) (hg7 : g ≤ 7) (w : ¬ ib (nI v) 0 (gn - 1) = 0) : v < g := by
  obtain ⟨i, hi, e⟩ := q_num eg hg7 w
  rw [(nI_eq (by omega) (by omega)).mp e]; exact hi
theorem i_come (h : BY cb mb B n) (hT : TK cb mb B n p0 a0 l0 k0 v0) (hS : SR wets gc gn host rooms night wheels turned anew) : ∃ (st nx sta to nu : Int32) (gc' : Nat → Int32) (wheels' turned' : Int32) (tk A L K V : Int32) (anew' : Nat → Int32), f_X6_comeItem cb (nI n) wets gn host rooms night (nI (a0 + l0)) (nI a0) (nI k0) y0 gc wheels turned = some (st, nx, sta, to, nu, gc', wheels', turned') ∧ f_X9_takesCome mb (nI n) (nI a0) (nI l0) (nI k0) (nI v0) anew = some (tk, A, L, K, V, anew') ∧ OUT n (a0 + l0) st nx sta tk A L K ∧ (st = 0 ∨ SR wets gc' gn host rooms night wheels' turned' anew') := by
  obtain ⟨g, hg7, em, eg⟩ := hS.num
  obtain ⟨I, hI, eI⟩ := hS.gg.ins
  obtain ⟨a, l, k, v, hT1⟩ := tk_ex h (p := a0 + l0) hT.2.2.2.1
  have hal1 := hT1.2.2.2.1
  have hk4 := hT1.2.2.2.2.1
  have hv := hT1.2.2.2.2.2.2
  obtain ⟨a2, l2, k2, v2, hT2⟩ := tk_ex h (p := a + l) hal1
  obtain ⟨y1, e1⟩ := q_numW hT1 0 (gn - 1) (nI a0) (nI k0) y0
  have e9 := q_isNumOf (b := 0) hk4 hv em hg7 eI hI
  by_cases ok : k = 2 ∧ ¬ ib (nI v) 0 (gn - 1) = 0
  · have ok9 : k = 2 ∧ ¬ ib (nI v) 0 (anew 0 - 1) = 0 := by rw [em, ← eg]; exact ok
    have hvg := q_vnum hv eg hg7 ok.2
    rw [if_pos ok] at e1
    rw [if_pos ok9] at e9
    rcases btn01 (anew 19) v with q | q
    · obtain ⟨b, gc', wh', tu', m', k1, k2', k3⟩ := hS.come em hg7 hvg q
      obtain ⟨y3, e3⟩ := q_stops hT2 (nI a) (nI k) y1
      refine ⟨bi (decide (k2 = 3)), nI (a2 + l2), nI a2, nI k2, y3, gc', wh', tu', 1, nI a2, nI l2, nI k2, nI v2, m', ?_, ?_, out_stop hT2 (by have := hT1.2.2.1; omega), Or.inr k3⟩
      · unfold f_X6_comeItem
        rw [e1, b_some]
        dsimp only
        rw [if_neg (nI_pos (by omega)), q_isIn hS.gg eg em hg7 hvg, b_some, if_pos q, k1, b_some, e3, b_some]
        dsimp only
        rw [if_pos (bi01 _)]
      · unfold f_X9_takesCome
        rw [q_behind hT hT1, b_some]
        dsimp only
        rw [e9, b_some, if_pos q, if_neg no10, k2', b_some, q_behind hT1 hT2, b_some]
    · have q0 : ¬ btn (anew 19) v = 0 := by rw [q]; decide
      refine ⟨0, nI (a + l), nI a, nI k, y1, gc, wheels, turned, 0, nI a, nI l, nI k, nI v, anew, ?_, ?_, out_no (by omega), Or.inl rfl⟩
      · unfold f_X6_comeItem
        rw [e1, b_some]
        dsimp only
        rw [if_neg (nI_pos (by omega)), q_isIn hS.gg eg em hg7 hvg, b_some, if_neg q0]
      · unfold f_X9_takesCome
        rw [q_behind hT hT1, b_some]
        dsimp only
        rw [e9, b_some, if_neg q0, if_pos rfl]
  · have ok9 : ¬ (k = 2 ∧ ¬ ib (nI v) 0 (anew 0 - 1) = 0) := by rw [em, ← eg]; exact ok
    rw [if_neg ok] at e1
    rw [if_neg ok9] at e9
    refine ⟨0, nI (a + l), nI a, nI k, y1, gc, wheels, turned, 0, nI a, nI l, nI k, nI v, anew, ?_, ?_, out_no (by omega), Or.inl rfl⟩
    · unfold f_X6_comeItem
      rw [e1, b_some]
      dsimp only
      rw [if_pos m1_lt]
    · unfold f_X9_takesCome
      rw [q_behind hT hT1, b_some]
      dsimp only
      rw [e9, b_some, if_pos rfl]
theorem i_go (h : BY cb mb B n) (hT : TK cb mb B n p0 a0 l0 k0 v0) (hS : SR wets gc gn host rooms night wheels turned anew) : ∃ (st nx sta to nu : Int32) (gc' : Nat → Int32) (tk A L K V : Int32) (anew' : Nat → Int32), f_X6_goItem cb (nI n) gn (nI (a0 + l0)) (nI a0) (nI k0) y0 gc = some (st, nx, sta, to, nu, gc') ∧ f_X9_takesGo mb (nI n) (nI a0) (nI l0) (nI k0) (nI v0) anew = some (tk, A, L, K, V, anew') ∧ OUT n (a0 + l0) st nx sta tk A L K ∧ (st = 0 ∨ SR wets gc' gn host rooms night wheels turned anew') := by
  obtain ⟨g, hg7, em, eg⟩ := hS.num
  obtain ⟨I, hI, eI⟩ := hS.gg.ins
  obtain ⟨a, l, k, v, hT1⟩ := tk_ex h (p := a0 + l0) hT.2.2.2.1
  have hal1 := hT1.2.2.2.1
  have hk4 := hT1.2.2.2.2.1
  have hv := hT1.2.2.2.2.2.2
  obtain ⟨a2, l2, k2, v2, hT2⟩ := tk_ex h (p := a + l) hal1
  obtain ⟨y1, e1⟩ := q_numW hT1 0 (gn - 1) (nI a0) (nI k0) y0
  have e9 := q_isNumOf (b := 1) hk4 hv em hg7 eI hI
  by_cases ok : k = 2 ∧ ¬ ib (nI v) 0 (gn - 1) = 0
  · have ok9 : k = 2 ∧ ¬ ib (nI v) 0 (anew 0 - 1) = 0 := by rw [em, ← eg]; exact ok
    have hvg := q_vnum hv eg hg7 ok.2
    rw [if_pos ok] at e1
    rw [if_pos ok9] at e9
    rcases btn01 (anew 19) v with q | q
    · have q0 : ¬ btn (anew 19) v = 1 := by rw [q]; decide
      refine ⟨0, nI (a + l), nI a, nI k, y1, gc, 0, nI a, nI l, nI k, nI v, anew, ?_, ?_, out_no (by omega), Or.inl rfl⟩
      · unfold f_X6_goItem
        rw [e1, b_some]
        dsimp only
        rw [if_neg (nI_pos (by omega)), q_isIn hS.gg eg em hg7 hvg, b_some, if_pos q]
      · unfold f_X9_takesGo
        rw [q_behind hT hT1, b_some]
        dsimp only
        rw [e9, b_some, if_neg q0, if_pos rfl]
    · have q0 : ¬ btn (anew 19) v = 0 := by rw [q]; decide
      have hset : (anew 19 &&& (((1 : Int32) <<< (nI v &&& 31)) ^^^ (-1 : Int32))) = nI (I &&& (127 - 2 ^ v)) := by rw [eI]; exact bt_clr ⟨I, hI⟩ ⟨v, by omega⟩
      obtain ⟨y3, e3⟩ := q_stops hT2 (nI a) (nI k) y1
      refine ⟨bi (decide (k2 = 3)), nI (a2 + l2), nI a2, nI k2, y3, upd gc (4 * v + 3) 0, 1, nI a2, nI l2, nI k2, nI v2, upd anew 19 (nI (I &&& (127 - 2 ^ v))), ?_, ?_, out_stop hT2 (by have := hT1.2.2.1; omega), Or.inr (hS.go em hg7 hvg eI hI)⟩
      · unfold f_X6_goItem
        rw [e1, b_some]
        dsimp only
        rw [if_neg (nI_pos (by omega)), q_isIn hS.gg eg em hg7 hvg, b_some, if_neg q0, q_leave _ eg hg7 hvg, b_some, e3, b_some]
        dsimp only
        rw [if_pos (bi01 _)]
      · unfold f_X9_takesGo
        rw [q_behind hT hT1, b_some]
        dsimp only
        rw [e9, b_some, if_pos q, if_neg no10, q_behind hT1 hT2, b_some, show Int32.toNatClampNeg 19 = 19 from rfl, hset]
  · have ok9 : ¬ (k = 2 ∧ ¬ ib (nI v) 0 (anew 0 - 1) = 0) := by rw [em, ← eg]; exact ok
    rw [if_neg ok] at e1
    rw [if_neg ok9] at e9
    refine ⟨0, nI (a + l), nI a, nI k, y1, gc, 0, nI a, nI l, nI k, nI v, anew, ?_, ?_, out_no (by omega), Or.inl rfl⟩
    · unfold f_X6_goItem
      rw [e1, b_some]
      dsimp only
      rw [if_pos m1_lt]
    · unfold f_X9_takesGo
      rw [q_behind hT hT1, b_some]
      dsimp only
      rw [e9, b_some, if_pos rfl]
theorem i_letter (h : BY cb mb B n) (hT : TK cb mb B n p0 a0 l0 k0 v0) (hS : SR wets gc gn host rooms night wheels turned anew) : ∃ (st nx sta to nu : Int32) (gc' : Nat → Int32) (tk A L K V : Int32) (anew' vals' : Nat → Int32), f_X6_letterItem cb (nI n) gn (nI (a0 + l0)) (nI a0) (nI k0) y0 gc = some (st, nx, sta, to, nu, gc') ∧ f_X9_takesLetter mb (nI n) (nI a0) (nI l0) (nI k0) (nI v0) anew vals = some (tk, A, L, K, V, anew', vals') ∧ OUT n (a0 + l0) st nx sta tk A L K ∧ (st = 0 ∨ SR wets gc' gn host rooms night wheels turned anew') := by
  obtain ⟨g, hg7, em, eg⟩ := hS.num
  have emg : anew 0 = gn := em.trans eg.symm
  obtain ⟨a, l, k, v, hT1⟩ := tk_ex h (p := a0 + l0) hT.2.2.2.1
  have hal1 := hT1.2.2.2.1
  have hv := hT1.2.2.2.2.2.2
  obtain ⟨a2, l2, k2, v2, hT2⟩ := tk_ex h (p := a + l) hal1
  have hal2 := hT2.2.2.2.1
  obtain ⟨a3, l3, k3, v3, hT3⟩ := tk_ex h (p := a2 + l2) hal2
  obtain ⟨y1, e1⟩ := q_numW hT1 0 (gn - 1) (nI a0) (nI k0) y0
  have t1 := q_takes hT1 hT2 (j := 0) (by decide) 0 (gn - 1) vals
  by_cases ok1 : k = 2 ∧ ¬ ib (nI v) 0 (gn - 1) = 0
  · have hvg := q_vnum hv eg hg7 ok1.2
    obtain ⟨y2, e2⟩ := q_numW hT2 0 9 (nI a) (nI k) y1
    have t2 := q_takes hT2 hT3 (j := 1) (by decide) 0 9 (upd vals 0 (nI v))
    rw [if_pos ok1] at e1 t1
    have c8 : f_X6_letterItem cb (nI n) gn (nI (a0 + l0)) (nI a0) (nI k0) y0 gc = ((f_X6_numberWithin cb (nI n) (nI (a + l)) (nI a) (nI k) y1 (0 : Int32) (9 : Int32)).bind fun q3 => (if 0 ≤ q3.1 then ((f_X5_put 28 (4 : Int32) gn gc (nI v) (1 : Int32) q3.1).bind fun q5 => ((f_X6_stops cb (nI n) q3.2.1 q3.2.2.1 q3.2.2.2.1 q3.2.2.2.2).bind fun q6 => (if q6.1 = 0 ∨ q6.1 = 1 then some (q6.1, q6.2.1, q6.2.2.1, q6.2.2.2.1, q6.2.2.2.2, q5) else none))) else some ((0 : Int32), q3.2.1, q3.2.2.1, q3.2.2.2.1, q3.2.2.2.2, gc))) := by
      unfold f_X6_letterItem
      rw [e1, b_some]
      dsimp only
      rw [if_pos (nI_0le hv)]
    have c9 : f_X9_takesLetter mb (nI n) (nI a0) (nI l0) (nI k0) (nI v0) anew vals = ((f_X9_takes mb (nI n) (nI a2) (nI l2) (nI k2) (nI v2) (upd vals 0 (nI v)) (1 : Int32) (0 : Int32) (9 : Int32)).bind fun q4 => (if q4.1 = 0 then some ((0 : Int32), q4.2.1, q4.2.2.1, q4.2.2.2.1, q4.2.2.2.2.1, anew, q4.2.2.2.2.2) else (if ¬ (((5 : Int32) + (q4.2.2.2.2.2 (Int32.toNatClampNeg (0 : Int32)))) < 0 ∨ 106 ≤ (Int32.toNatClampNeg ((5 : Int32) + (q4.2.2.2.2.2 (Int32.toNatClampNeg (0 : Int32)))))) then some ((1 : Int32), q4.2.1, q4.2.2.1, q4.2.2.2.1, q4.2.2.2.2.1, (upd anew (Int32.toNatClampNeg ((5 : Int32) + (q4.2.2.2.2.2 (Int32.toNatClampNeg (0 : Int32))))) (q4.2.2.2.2.2 (Int32.toNatClampNeg (1 : Int32)))), q4.2.2.2.2.2) else none))) := by
      unfold f_X9_takesLetter
      rw [q_behind hT hT1, b_some]
      dsimp only
      rw [show Int32.toNatClampNeg 0 = 0 from rfl, emg, show f_X9_takes mb (nI n) (nI a) (nI l) (nI k) (nI v) vals (0 : Int32) (0 : Int32) (gn - 1) = _ from t1, b_some]
      dsimp only
      rw [if_neg no10]
    by_cases ok2 : k2 = 2 ∧ ¬ ib (nI v2) 0 9 = 0
    · obtain ⟨y3, e3⟩ := q_stops hT3 (nI a2) (nI k2) y2
      rw [if_pos ok2] at e2 t2
      refine ⟨bi (decide (k3 = 3)), nI (a3 + l3), nI a3, nI k3, y3, upd gc (4 * v + 1) (nI v2), 1, nI a3, nI l3, nI k3, nI v3, upd anew (5 + v) (nI v2), upd (upd vals 0 (nI v)) 1 (nI v2), ?_, ?_, out_stop hT3 ?_, Or.inr (hS.letter em hg7 hvg (ibn ok2.2))⟩
      · rw [c8, e2, b_some]
        dsimp only
        rw [if_pos (nI_0le hT2.2.2.2.2.2.2), gput1 _ _ eg hg7 hvg, b_some, e3, b_some]
        dsimp only
        rw [if_pos (bi01 _)]
      · rw [c9, show f_X9_takes mb (nI n) (nI a2) (nI l2) (nI k2) (nI v2) (upd vals 0 (nI v)) (1 : Int32) (0 : Int32) (9 : Int32) = _ from t2, b_some]
        dsimp only
        rw [if_neg no10, show Int32.toNatClampNeg 0 = 0 from rfl, show Int32.toNatClampNeg 1 = 1 from rfl, up_same]
        have key : ∀ z : Int32, z = nI v → (if ¬ (((5 : Int32) + z) < 0 ∨ 106 ≤ (Int32.toNatClampNeg ((5 : Int32) + z))) then some ((1 : Int32), nI a3, nI l3, nI k3, nI v3, (upd anew (Int32.toNatClampNeg ((5 : Int32) + z)) (nI v2)), upd (upd vals 0 (nI v)) 1 (nI v2)) else none) = some (1, nI a3, nI l3, nI k3, nI v3, upd anew (5 + v) (nI v2), upd (upd vals 0 (nI v)) 1 (nI v2)) := fun z hz => by
          subst hz
          rw [show (5 : Int32) + nI v = nI (5 + v) from na_add 5 v, if_pos (nI_in (by omega) (by decide)), nI_clamp (by omega)]
        exact key _ (by rw [up_ne _ _ (show (0 : Nat) ≠ 1 by decide), up_same])
      · have := hT1.2.2.1
        have := hT2.2.2.1
        omega
    · rw [if_neg ok2] at e2 t2
      refine ⟨0, nI (a2 + l2), nI a2, nI k2, y2, gc, 0, nI a2, nI l2, nI k2, nI v2, anew, upd vals 0 (nI v), ?_, ?_, out_no (by omega), Or.inl rfl⟩
      · rw [c8, e2, b_some]
        dsimp only
        rw [if_neg no_m1]
      · rw [c9, show f_X9_takes mb (nI n) (nI a2) (nI l2) (nI k2) (nI v2) (upd vals 0 (nI v)) (1 : Int32) (0 : Int32) (9 : Int32) = _ from t2, b_some]
        dsimp only
        rw [if_pos rfl]
  · rw [if_neg ok1] at e1 t1
    refine ⟨0, nI (a + l), nI a, nI k, y1, gc, 0, nI a, nI l, nI k, nI v, anew, vals, ?_, ?_, out_no (by omega), Or.inl rfl⟩
    · unfold f_X6_letterItem
      rw [e1, b_some]
      dsimp only
      rw [if_neg no_m1]
    · unfold f_X9_takesLetter
      rw [q_behind hT hT1, b_some]
      dsimp only
      rw [show Int32.toNatClampNeg 0 = 0 from rfl, emg, show f_X9_takes mb (nI n) (nI a) (nI l) (nI k) (nI v) vals (0 : Int32) (0 : Int32) (gn - 1) = _ from t1, b_some]
      dsimp only
      rw [if_pos rfl]
theorem i_nights (h : BY cb mb B n) (hT : TK cb mb B n p0 a0 l0 k0 v0) (hS : SR wets gc gn host rooms night wheels turned anew) : ∃ (st nx sta to nu : Int32) (night' wheels' : Int32) (tk A L K V : Int32) (anew' vals' : Nat → Int32), f_X6_nightsItem cb (nI n) (nI (a0 + l0)) (nI a0) (nI k0) y0 night wheels = some (st, nx, sta, to, nu, night', wheels') ∧ f_X9_takesNights mb (nI n) (nI a0) (nI l0) (nI k0) (nI v0) anew vals = some (tk, A, L, K, V, anew', vals') ∧ OUT n (a0 + l0) st nx sta tk A L K ∧ (st = 0 ∨ SR wets gc gn host rooms night' wheels' turned anew') := by
  obtain ⟨a, l, k, v, hT1⟩ := tk_ex h (p := a0 + l0) hT.2.2.2.1
  have hal1 := hT1.2.2.2.1
  have hv := hT1.2.2.2.2.2.2
  obtain ⟨a2, l2, k2, v2, hT2⟩ := tk_ex h (p := a + l) hal1
  obtain ⟨y1, e1⟩ := q_numW hT1 1 99 (nI a0) (nI k0) y0
  have t1 := q_takes hT1 hT2 (j := 0) (by decide) 1 99 vals
  obtain ⟨t, ht, et⟩ := rg_nI (h := 9999) hS.2.1 (by decide)
  have ent : night = nI t := hS.1.2.2.2.1.trans et
  by_cases ok : k = 2 ∧ ¬ ib (nI v) 1 99 = 0
  · rw [if_pos ok] at e1 t1
    obtain ⟨y3, e3⟩ := q_stops hT2 (nI a) (nI k) y1
    have hvv : rg (nI (min (t + v) 9999)) 0 9999 := ⟨by rw [nI_toInt (by omega)]; omega, by rw [nI_toInt (by omega)]; omega⟩
    have s8 : f_X1_sleep night wheels (nI v) = some (nI (min (t + v) 9999), 0) := by
      unfold f_X1_sleep
      rw [ent, na_add]
      by_cases e : t + v < 9999
      · rw [if_pos (show nI (t + v) < (9999 : Int32) from nI_lt (b := 9999) e (by decide)), show min (t + v) 9999 = t + v by omega]
      · rw [if_neg (show ¬ nI (t + v) < (9999 : Int32) from nI_nlt (b := 9999) (by omega) (by omega)), show min (t + v) 9999 = 9999 by omega] <;> rfl
    have s9 : f_X9_goNights 106 anew (nI v) = some (upd (upd anew 22 (nI (min (t + v) 9999))) 20 0) := by
      unfold f_X9_goNights f_X9_goNights_b27
      rw [show Int32.toNatClampNeg 22 = 22 from rfl, show Int32.toNatClampNeg 20 = 20 from rfl, et, na_add, if_pos (by decide)]
      by_cases e : t + v ≤ 9999
      · rw [if_pos (show nI (t + v) ≤ (9999 : Int32) from nI_le (b := 9999) e (by decide)), if_pos (by decide), if_pos (by decide), if_pos (by decide), show min (t + v) 9999 = t + v by omega]
      · rw [if_neg (show ¬ nI (t + v) ≤ (9999 : Int32) from nI_ge (a := 9999) (b := t + v) (by omega) (by omega)), if_pos (by decide), if_pos (by decide), show min (t + v) 9999 = 9999 by omega] <;> rfl
    refine ⟨bi (decide (k2 = 3)), nI (a2 + l2), nI a2, nI k2, y3, nI (min (t + v) 9999), 0, 1, nI a2, nI l2, nI k2, nI v2, upd (upd anew 22 (nI (min (t + v) 9999))) 20 0, upd vals 0 (nI v), ?_, ?_, out_stop hT2 (by have := hT1.2.2.1; omega), Or.inr (hS.sleep hvv)⟩
    · unfold f_X6_nightsItem
      rw [e1, b_some]
      dsimp only
      rw [if_pos (nI_0le hv), s8, b_some, e3, b_some]
      dsimp only
      rw [if_pos (bi01 _)]
    · unfold f_X9_takesNights
      rw [q_behind hT hT1, b_some]
      dsimp only
      rw [show f_X9_takes mb (nI n) (nI a) (nI l) (nI k) (nI v) vals (0 : Int32) (1 : Int32) (99 : Int32) = _ from t1, b_some]
      dsimp only
      rw [if_neg no10, show Int32.toNatClampNeg 0 = 0 from rfl, up_same, s9, b_some]
  · rw [if_neg ok] at e1 t1
    refine ⟨0, nI (a + l), nI a, nI k, y1, night, wheels, 0, nI a, nI l, nI k, nI v, anew, vals, ?_, ?_, out_no (by omega), Or.inl rfl⟩
    · unfold f_X6_nightsItem
      rw [e1, b_some]
      dsimp only
      rw [if_neg no_m1]
    · unfold f_X9_takesNights
      rw [q_behind hT hT1, b_some]
      dsimp only
      rw [show f_X9_takes mb (nI n) (nI a) (nI l) (nI k) (nI v) vals (0 : Int32) (1 : Int32) (99 : Int32) = _ from t1, b_some]
      dsimp only
      rw [if_pos rfl]
end QI
end QIT
