/-! READING: both come to the same end -/
def RD (all : Nat → Int32) (r8 : Option (Int32 × Int32 × Int32 × Int32 × Int32 × (Nat → Int32) × (Nat → Int32) × Int32 × Int32 × Int32 × Int32 × Int32 × Int32 × Int32 × Int32 × Int32 × Int32)) (r9 : Option (Int32 × (Nat → Int32) × Int32 × Int32 × Int32 × Int32 × (Nat → Int32) × (Nat → Int32))) : Prop := ∃ (ans nx sta to nu : Int32) (wets gc : Nat → Int32) (gn sn rn kn pn host rooms night wheels turned : Int32) (all' : Nat → Int32) (A L K V : Int32) (anew vals : Nat → Int32), r8 = some (ans, nx, sta, to, nu, wets, gc, gn, sn, rn, kn, pn, host, rooms, night, wheels, turned) ∧ r9 = some (ans, all', A, L, K, V, anew, vals) ∧ ((ans ≤ 0 ∧ all' = all) ∨ (¬ ans ≤ 0 ∧ SR wets gc gn host rooms night wheels turned all' ∧ sn = 0 ∧ rn = 0 ∧ kn = 0 ∧ pn = 0))
theorem neg_le : ∀ a : Fin 151, (-10 : Int32) - nI a.val ≤ 0 := by decide +kernel
section QRD
variable {cb mb : Nat → Int32} {B : Nat → Nat} {n : Nat}
theorem q_fault8 {fu a : Nat} {all anew vals wets gc : Nat → Int32} {gn sn rn kn pn host rooms night wheels turned nx to nu l2 A L K V : Int32} (ha : a ≤ 150) : RD all (f_X6_build_b12 cb (nI n) (fu + 1) nx (nI a) to nu wets gc gn sn rn kn pn host rooms night wheels turned 0 l2) (some ((-10 : Int32) - nI a, all, A, L, K, V, anew, vals)) := by
  rw [f_X6_build_b12, if_pos rfl]
  unfold f_X6_build_b155
  exact ⟨_, _, _, _, _, _, _, _, _, _, _, _, _, _, _, _, _, _, _, _, _, _, _, _, rfl, rfl, Or.inl ⟨neg_le ⟨a, by omega⟩, rfl⟩⟩
theorem q_behind0 {a l a' l' k' v' : Nat} (hT' : TK cb mb B n (a + l) a' l' k' v') (x1 x2 : Int32) : f_X9_goBehind mb (nI n) (nI a) (nI l) x1 x2 = some (nI a', nI l', nI k', nI v') := by
  unfold f_X9_goBehind
  rw [na_add, hT'.1, b_some]
theorem out01 {e : Nat} {st nx sta tk A L K : Int32} (h : OUT n e st nx sta tk A L K) : tk = 0 ∨ tk = 1 := by
  rcases h with ⟨-, -, -, h | h⟩ | ⟨-, h, -⟩
  · exact Or.inl h
  · exact Or.inr h.1
  · exact Or.inr h
theorem out01s {e : Nat} {st nx sta tk A L K : Int32} (h : OUT n e st nx sta tk A L K) : st = 0 ∨ st = 1 := by
  rcases h with ⟨h, -⟩ | ⟨h, -⟩
  · exact Or.inl h
  · exact Or.inr h
theorem q_after (h : BY cb mb B n) {e it fu fu9 : Nat} {st nx sta to nu tk A L K V gn host rooms night wheels turned : Int32} {wets gc anew vals all : Nat → Int32} (hO : OUT n e st nx sta tk A L K) (hS : st = 0 ∨ SR wets gc gn host rooms night wheels turned anew) (IH : ∀ (p' a l k v : Nat) (s t x : Int32), e < p' → p' ≤ n → TK cb mb B n p' a l k v → SR wets gc gn host rooms night wheels turned anew → RD all (f_X6_build_b12 cb (nI n) (fu + 1) (nI p') s t x wets gc gn 0 0 0 0 host rooms night wheels turned 1 (nI (it + 1))) (f_X9_read_b96 mb (nI n) fu9 all (nI a) (nI l) (nI k) (nI v) anew vals (nI (it + 1)))) : RD all (f_X6_build_b149 (f_X6_build_b12 cb (nI n) (fu + 1)) cb (nI n) nx sta to nu wets gc gn 0 0 0 0 host rooms night wheels turned st (nI it)) (if tk = 0 then f_X9_read_b118 mb (nI n) all A L K V anew vals else (if K = (3 : Int32) then ((f_X9_goBehind mb (nI n) A L K V).bind fun q8 => f_X9_read_b96 mb (nI n) fu9 all q8.1 q8.2.1 q8.2.2.1 q8.2.2.2 anew vals (nI it + (1 : Int32))) else f_X9_read_b118 mb (nI n) all A L K V anew vals)) := by
  have h150 := h.1
  unfold f_X6_build_b149 f_X9_read_b118
  rcases hO with ⟨o1, o2, ⟨a, o3, o4⟩, o5⟩ | ⟨o1, o2, o3, a', l', o4, o5, o6, o7, o8⟩
  · subst o1
    subst o2
    subst o4
    rcases o5 with o5 | ⟨o5, o6⟩
    · rw [if_pos o5]; exact q_fault8 (by omega)
    · rw [o5, if_neg no10, if_neg o6]; exact q_fault8 (by omega)
  · have hS' := hS.resolve_left (by rw [o1]; decide)
    obtain ⟨a, l, k, v, hT⟩ := tk_ex h (p := a' + l') o8
    rw [o1, o2, if_neg no10, if_pos o3, o4, o5, q_behind0 hT, b_some, o6, show nI it + (1 : Int32) = nI (it + 1) from na_add it 1]
    exact IH (a' + l') a l k v sta to nu o7 o8 hT hS'
theorem q_copyAll {anew vals : Nat → Int32} {A L K V l1 : Int32} : ∀ (d j fu : Nat) (all1 : Nat → Int32), j + d = 106 → d < fu → (∀ k : Nat, k < j → all1 k = anew k) → ∃ all' : Nat → Int32, f_X9_read_b138 mb (nI n) fu all1 A L K V anew vals l1 (nI j) = some (l1, all', A, L, K, V, anew, vals) ∧ ∀ k : Nat, k < 106 → all' k = anew k := by
  intro d
  induction d with
  | zero =>
    intro j fu all1 h1 h2 h3
    obtain ⟨fu, rfl⟩ : ∃ k, fu = k + 1 := ⟨fu - 1, by omega⟩
    exact ⟨all1, by rw [f_X9_read_b138, show j = 106 by omega, if_pos (show (106 : Int32) ≤ nI 106 by decide)], fun k hk => h3 k (by omega)⟩
  | succ d ih =>
    intro j fu all1 h1 h2 h3
    obtain ⟨fu, rfl⟩ : ∃ k, fu = k + 1 := ⟨fu - 1, by omega⟩
    obtain ⟨all', e1, e2⟩ := ih (j + 1) fu (upd all1 j (anew j)) (by omega) (by omega) (fun k hk => by
      by_cases e : k = j
      · rw [e, up_same]
      · rw [up_ne _ _ e]; exact h3 k (by omega))
    refine ⟨all', ?_, e2⟩
    rw [f_X9_read_b138, if_neg (show ¬ (106 : Int32) ≤ nI j from nI_ge (b := 106) (by omega) (by decide)), if_pos (nI_in (show j < 106 by omega) (by decide)), if_pos (nI_in (show j < 250 by omega) (by decide)), nI_clamp (by omega), show nI j + (1 : Int32) = nI (j + 1) from na_add j 1]
    exact e1
set_option maxHeartbeats 4000000 in
theorem q_items (h : BY cb mb B n) : ∀ (d p it fu fu9 a l k v : Nat) (wets gc anew vals all : Nat → Int32) (gn host rooms night wheels turned s t x : Int32), n - p < d → d < fu → d < fu9 → 1 ≤ it → it ≤ p → p ≤ n → TK cb mb B n p a l k v → SR wets gc gn host rooms night wheels turned anew → RD all (f_X6_build_b12 cb (nI n) fu (nI p) s t x wets gc gn 0 0 0 0 host rooms night wheels turned 1 (nI it)) (f_X9_read_b96 mb (nI n) fu9 all (nI a) (nI l) (nI k) (nI v) anew vals (nI it)) := by
  have h150 := h.1
  intro d
  induction d with
  | zero => intro p it fu fu9 a l k v wets gc anew vals all gn host rooms night wheels turned s t x h1; omega
  | succ d ih =>
    intro p it fu fu9 a l k v wets gc anew vals all gn host rooms night wheels turned s t x h1 h2 h3 h4 h5 h6 hT hS
    obtain ⟨fu, rfl⟩ : ∃ k, fu = k + 2 := ⟨fu - 2, by omega⟩
    obtain ⟨fu9, rfl⟩ : ∃ k, fu9 = k + 1 := ⟨fu9 - 1, by omega⟩
    obtain ⟨y, e1, -⟩ := hT.2.1 s t x
    have hk4 := hT.2.2.2.2.1
    have hal := hT.2.2.2.1
    have hpa := hT.2.2.1
    rw [f_X6_build_b12, if_neg no10, if_neg (show ¬ (150 : Int32) < nI it from nI_nlt (b := it) (a := 150) (by omega) (by omega)), e1, b_some, f_X9_read_b96]
    dsimp only
    by_cases k0 : k = 0
    · have hk0 : nI k = (0 : Int32) := by rw [k0] <;> rfl
      obtain ⟨all', f1, f2⟩ := q_copyAll (mb := mb) (n := n) (anew := anew) (vals := vals) (A := nI a) (L := nI l) (K := nI k) (V := nI v) (l1 := nI it) 106 0 s_fuel all (by omega) (by unfold s_fuel; omega) (fun k hk => by omega)
      rw [if_pos hk0, if_pos hk0]
      exact ⟨_, _, _, _, _, _, _, _, _, _, _, _, _, _, _, _, _, _, _, _, _, _, _, _, rfl, f1, Or.inr ⟨nI_nle (by omega) (by omega), hS.same (fun k hk => f2 k (by omega)), rfl, rfl, rfl, rfl⟩⟩
    have hk0 : ¬ nI k = (0 : Int32) := fun q => k0 ((nI_eq (by omega) (by decide)).mp (show nI k = nI 0 from q))
    rw [if_neg hk0, if_neg hk0]
    have hl0 : l ≠ 0 := fun q => k0 (hT.2.2.2.2.2.1.mpr q)
    have step : ∀ (wets gc anew vals : Nat → Int32) (gn host rooms night wheels turned : Int32) (p' a' l' k' v' : Nat) (s t x : Int32), a + l < p' → p' ≤ n → TK cb mb B n p' a' l' k' v' → SR wets gc gn host rooms night wheels turned anew → RD all (f_X6_build_b12 cb (nI n) (fu + 1) (nI p') s t x wets gc gn 0 0 0 0 host rooms night wheels turned 1 (nI (it + 1))) (f_X9_read_b96 mb (nI n) fu9 all (nI a') (nI l') (nI k') (nI v') anew vals (nI (it + 1))) := fun wets gc anew vals gn host rooms night wheels turned p' a' l' k' v' s t x g1 g2 g3 g4 => ih p' (it + 1) (fu + 1) fu9 a' l' k' v' wets gc anew vals all gn host rooms night wheels turned s t x (by omega) (by omega) (by omega) (by omega) (by omega) g2 g3 g4
    obtain ⟨-, ⟨x1, n1, s1⟩, ⟨x2, n2, s2⟩, ⟨x3, n3, s3⟩, ⟨x4, n4, s4⟩, ⟨x5, n5, s5⟩, ⟨x6, n6, s6⟩⟩ := q_words h hal hk4
    unfold f_X9_takesItem
    rw [n1, b_some, s1, b_some]
    cases x1 with
    | true =>
      obtain ⟨st, nx, sta, to, nu, wets1, tk, A, L, K, V, anew1, vals1, f1, f2, f3, f4⟩ := i_wet (vals := vals) (y0 := y) h hT hS
      rw [if_neg bi_t, f1, b_some, if_neg bi_t, f2, b_some]
      dsimp only
      rw [if_pos (out01 f3), b_some]
      exact q_after h f3 f4 (step wets1 gc anew1 vals1 gn host rooms night wheels turned)
    | false =>
    rw [if_pos bi_f, n2, b_some, if_pos bi_f, s2, b_some]
    cases x2 with
    | true =>
      obtain ⟨st, nx, sta, to, nu, gc1, gn1, tk, A, L, K, V, anew1, vals1, f1, f2, f3, f4⟩ := i_one (vals := vals) (y0 := y) h hT hS
      rw [if_neg bi_t, f1, b_some, if_neg bi_t, f2, b_some]
      dsimp only
      rw [if_pos (out01 f3), b_some]
      exact q_after h f3 f4 (step wets gc1 anew1 vals1 gn1 host rooms night wheels turned)
    | false =>
    rw [if_pos bi_f, n3, b_some, if_pos bi_f, s3, b_some]
    cases x3 with
    | true =>
      obtain ⟨st, nx, sta, to, nu, gc1, wh1, tu1, tk, A, L, K, V, anew1, f1, f2, f3, f4⟩ := i_come  (y0 := y) h hT hS
      rw [if_neg bi_t, f1, b_some, if_neg bi_t, f2, b_some]
      dsimp only
      rw [if_pos (out01 f3), b_some]
      exact q_after h f3 f4 (step wets gc1 anew1 vals gn host rooms night wh1 tu1)
    | false =>
    rw [if_pos bi_f, n4, b_some, if_pos bi_f, s4, b_some]
    cases x4 with
    | true =>
      obtain ⟨st, nx, sta, to, nu, gc1, tk, A, L, K, V, anew1, f1, f2, f3, f4⟩ := i_go  (y0 := y) h hT hS
      rw [if_neg bi_t, f1, b_some, if_neg bi_t, f2, b_some]
      dsimp only
      rw [if_pos (out01 f3), b_some]
      exact q_after h f3 f4 (step wets gc1 anew1 vals gn host rooms night wheels turned)
    | false =>
    rw [if_pos bi_f, n5, b_some, if_pos bi_f, s5, b_some]
    cases x5 with
    | true =>
      obtain ⟨st, nx, sta, to, nu, gc1, tk, A, L, K, V, anew1, vals1, f1, f2, f3, f4⟩ := i_letter (vals := vals) (y0 := y) h hT hS
      rw [if_neg bi_t, f1, b_some, if_neg bi_t, f2, b_some]
      dsimp only
      rw [if_pos (out01 f3), b_some]
      exact q_after h f3 f4 (step wets gc1 anew1 vals1 gn host rooms night wheels turned)
    | false =>
    rw [if_pos bi_f, n6, b_some, if_pos bi_f, s6, b_some]
    cases x6 with
    | true =>
      obtain ⟨st, nx, sta, to, nu, ni1, wh1, tk, A, L, K, V, anew1, vals1, f1, f2, f3, f4⟩ := i_nights (vals := vals) (y0 := y) h hT hS
      rw [if_neg bi_t, f1, b_some, if_neg bi_t, f2, b_some]
      dsimp only
      have hq := q_after (to := to) (nu := nu) (V := V) h f3 f4 (step wets gc anew1 vals1 gn host rooms ni1 wh1 turned)
      have hr : ((if tk = 0 then some ((0 : Int32), A, L, K, V, anew1, vals1) else some ((1 : Int32), A, L, K, V, anew1, vals1)) : Option (Int32 × Int32 × Int32 × Int32 × Int32 × (Nat → Int32) × (Nat → Int32))) = some (tk, A, L, K, V, anew1, vals1) := by
        rcases out01 f3 with q | q
        · rw [q, if_pos rfl]
        · rw [q, if_neg no10]
      rw [hr, b_some]
      unfold f_X6_build_b147 f_X6_build_b148
      rcases out01s f3 with q | q
      · rw [q] at hq ⊢
        rw [if_pos rfl]; exact hq
      · rw [q] at hq ⊢
        rw [if_neg no10]; exact hq
    | false =>
      rw [if_pos bi_f, if_pos bi_f, b_some]
      unfold f_X6_build_b147 f_X6_build_b148 f_X6_build_b149 f_X9_read_b118
      dsimp only
      rw [if_pos rfl]
      exact q_fault8 (by omega)
set_option maxHeartbeats 4000000 in
theorem q_readBoth (h : BY cb mb B n) (wets gc anew vals all : Nat → Int32) (gn sn rn kn pn host rooms night wheels turned nx0 s t x z1 z2 z3 z4 : Int32) : RD all (f_X6_build cb (nI n) nx0 s t x wets gc gn sn rn kn pn host rooms night wheels turned) (f_X9_read mb (nI n) all z1 z2 z3 z4 anew vals) := by
  have h150 := h.1
  obtain ⟨a, l, k, v, hT⟩ := tk_ex h (p := 0) (Nat.zero_le n)
  have hk4 := hT.2.2.2.2.1
  have hal := hT.2.2.2.1
  obtain ⟨y, e1, -⟩ := hT.2.1 s t x
  obtain ⟨⟨x0, n0, s0⟩, -⟩ := q_words h hal hk4
  obtain ⟨a1, l1, k1, v1, hT1⟩ := tk_ex h (p := a + l) hal
  have hal1 := hT1.2.2.2.1
  obtain ⟨a2, l2, k2, v2, hT2⟩ := tk_ex h (p := a1 + l1) hal1
  have hal2 := hT2.2.2.2.1
  obtain ⟨a3, l3, k3, v3, hT3⟩ := tk_ex h (p := a2 + l2) hal2
  have hal3 := hT3.2.2.2.1
  have hk34 := hT3.2.2.2.2.1
  obtain ⟨a4, l4, k4, v4, hT4⟩ := tk_ex h (p := a3 + l3) hal3
  unfold f_X6_build f_X4_rewind f_X6_opening f_X9_read f_X9_read_b63
  rw [b_some, show f_X4_advance cb (nI n) (0 : Int32) s t x = some (nI (a + l), nI a, nI k, y) from e1, b_some, show f_X9_lookAt mb (nI n) z1 z2 z3 z4 (0 : Int32) = some (nI a, nI l, nI k, nI v) from hT.1 z1 z2 z3 z4, b_some]
  dsimp only
  rw [n0, b_some, s0, b_some]
  cases x0 with
  | false =>
    rw [if_pos bi_f, if_pos bi_f, b_some]
    exact q_fault8 (fu := 5999) (by omega)
  | true =>
  rw [if_neg bi_t, if_neg bi_t, q_behind hT hT1, b_some]
  dsimp only
  obtain ⟨y1, w1⟩ := q_numW hT1 0 5 (nI a) (nI k) y
  have t1 := q_takes hT1 hT2 (j := 0) (by decide) 0 5 vals
  by_cases ok1 : k1 = 2 ∧ ¬ ib (nI v1) 0 5 = 0
  case neg =>
    rw [if_neg ok1] at w1 t1
    rw [w1, b_some, show f_X9_takes mb (nI n) (nI a1) (nI l1) (nI k1) (nI v1) vals (0 : Int32) (0 : Int32) (5 : Int32) = _ from t1, b_some]
    dsimp only
    rw [if_neg no_m1, if_pos rfl, b_some]
    exact q_fault8 (fu := 5999) (by omega)
  rw [if_pos ok1] at w1 t1
  rw [w1, b_some, show f_X9_takes mb (nI n) (nI a1) (nI l1) (nI k1) (nI v1) vals (0 : Int32) (0 : Int32) (5 : Int32) = _ from t1, b_some]
  dsimp only
  rw [if_pos (nI_0le hT1.2.2.2.2.2.2), if_neg no10]
  obtain ⟨y2, w2⟩ := q_numW hT2 0 7 (nI a1) (nI k1) y1
  have t2 := q_takes hT2 hT3 (j := 1) (by decide) 0 7 (upd vals 0 (nI v1))
  by_cases ok2 : k2 = 2 ∧ ¬ ib (nI v2) 0 7 = 0
  case neg =>
    rw [if_neg ok2] at w2 t2
    rw [w2, b_some, show f_X9_takes mb (nI n) (nI a2) (nI l2) (nI k2) (nI v2) (upd vals 0 (nI v1)) (1 : Int32) (0 : Int32) (7 : Int32) = _ from t2, b_some]
    dsimp only
    rw [if_neg no_m1, if_pos rfl, b_some]
    exact q_fault8 (fu := 5999) (by omega)
  rw [if_pos ok2] at w2 t2
  rw [w2, b_some, show f_X9_takes mb (nI n) (nI a2) (nI l2) (nI k2) (nI v2) (upd vals 0 (nI v1)) (1 : Int32) (0 : Int32) (7 : Int32) = _ from t2, b_some]
  dsimp only
  obtain ⟨y3, w3⟩ := q_stops hT3 (nI a2) (nI k2) y2
  rw [if_pos (nI_0le hT2.2.2.2.2.2.2), if_neg no10, q_begin, b_some, w3, b_some]
  dsimp only
  rw [if_pos (bi01 _), b_some]
  dsimp only
  by_cases z : k3 = 3
  · have hl3 : l3 ≠ 0 := fun q => by have := hT3.2.2.2.2.2.1.mpr q; omega
    rw [if_pos (show nI k3 = (3 : Int32) by rw [z] <;> rfl), q_behind hT3 hT4, b_some, show Int32.toNatClampNeg 0 = 0 from rfl, show Int32.toNatClampNeg 1 = 1 from rfl, up_same, up_ne _ _ (show (0 : Nat) ≠ 1 by decide), up_same, q_begin9 (by decide) (by decide), b_some, decide_eq_true z]
    exact q_items h (n + 1) (a3 + l3) 1 s_fuel s_fuel a4 l4 k4 v4 _ gc _ _ all 0 (nI v1) (nI v2) 0 0 0 (nI a3) (nI k3) y3 (by omega) (by unfold s_fuel; omega) (by unfold s_fuel; omega) (Nat.le_refl 1) (by omega) hal3 hT4 (SR.first wets gc anew (ibn ok1.2) (ibn ok2.2))
  · rw [if_neg (show ¬ nI k3 = (3 : Int32) from fun q => z ((nI_eq (by omega) (by decide)).mp (show nI k3 = nI 3 from q))), decide_eq_false z]
    exact q_fault8 (fu := 5999) (by omega)
end QRD
