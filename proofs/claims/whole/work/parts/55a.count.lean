/-- cells that are the same -/
theorem HR.cells {w gc sc rc kc pc m w' gc' sc' rc' kc' pc' m' : Nat → Int32} {gn sn rn kn pn host rooms night wheels turned : Int32} (h : HR w gc gn sc sn rc rn kc kn pc pn host rooms night wheels turned m) (ew : ∀ k, k < 6 → w' k = w k) (eg : ∀ k, k < 28 → gc' k = gc k) (es : ∀ k, k < 20 → sc' k = sc k) (er : ∀ k, k < 30 → rc' k = rc k) (ek : ∀ k, k < 18 → kc' k = kc k) (ep : ∀ k, k < 192 → pc' k = pc k) (em : ∀ k, k < 250 → m' k = m k) : HR w' gc' gn sc' sn rc' rn kc' kn pc' pn host rooms night wheels turned m' := by
  obtain ⟨⟨a1, a2, a3, a4, a5, a6, a7, a8, a9, a10, b1, b2, b3, b4, b5, b6, b7, b8, b9, b10⟩, hW, hG, hS, hN, hK, hP⟩ := h
  have c1 := b1.2
  have c2 := b2.2
  have c3 := b3.2
  have c4 := b4.2
  have c5 := b5.2
  refine ⟨?_, ?_, ?_, ?_, ?_, ?_, ?_⟩
  · unfold G0
    rw [em 0 (by decide), em 1 (by decide), em 2 (by decide), em 3 (by decide), em 4 (by decide), em 23 (by decide), em 24 (by decide), em 22 (by decide), em 20 (by decide), em 21 (by decide)]
    exact ⟨a1, a2, a3, a4, a5, a6, a7, a8, a9, a10, b1, b2, b3, b4, b5, b6, b7, b8, b9, b10⟩
  · intro j hj; rw [ew j hj, em (25 + j) (by omega)]; exact hW j hj
  · have hG' := hG.congr b1 (m' := m') (fun k hk => em k (by omega))
    obtain ⟨g1, g2, g3, g4⟩ := hG'
    refine ⟨g1, g2, g3, fun i hi => ?_⟩
    have hi' := hi
    rw [em 0 (by decide)] at hi'
    rw [eg _ (by omega), eg _ (by omega), eg _ (by omega), eg _ (by omega)]
    exact g4 i hi
  · have h' := hS.congr b2 (m' := m') (fun k hk => em k (by omega))
    intro k hk
    have hk' := hk
    rw [em 1 (by decide)] at hk'
    obtain ⟨q1, q2⟩ := h' k hk
    exact ⟨fun j hj => by rw [es _ (by omega)]; exact q1 j hj, q2⟩
  · have h' := hN.congr b3 (m' := m') (fun k hk => em k (by omega))
    intro k hk
    have hk' := hk
    rw [em 2 (by decide)] at hk'
    obtain ⟨q1, q2⟩ := h' k hk
    exact ⟨fun j hj => by rw [er _ (by omega)]; exact q1 j hj, q2⟩
  · have h' := hK.congr b4 (m' := m') (fun k hk => em k (by omega))
    intro k hk
    have hk' := hk
    rw [em 3 (by decide)] at hk'
    obtain ⟨q1, q2⟩ := h' k hk
    exact ⟨fun j hj => by rw [ek _ (by omega)]; exact q1 j hj, q2⟩
  · have h' := hP.congr b1 b5 (m' := m') (fun k hk => em k (by omega))
    intro r hr
    have hr' := hr
    rw [em 4 (by decide)] at hr'
    obtain ⟨q1, q2, q3, q4, q5, q6, q7, q8, q9, q10⟩ := h' r hr
    refine ⟨?_, ?_, ?_, q4, q5, q6, q7, q8, q9, fun i hi => ?_⟩
    · rw [ep _ (by omega)]; exact q1
    · rw [ep _ (by omega)]; exact q2
    · rw [ep _ (by omega)]; exact q3
    · have hi' := hi
      rw [em 0 (by decide)] at hi'
      rw [ep _ (by omega), ep _ (by omega), ep _ (by omega)]; exact q10 i hi
theorem q_cp28 (p c : Nat → Int32) (pr r : Int32) : f_X5_copy 28 28 p pr c r = some (va_cpy p c 0 0 28, pr) := by
  unfold f_X5_copy; rw [if_pos rfl, if_pos (by decide)]; rfl
theorem q_cp20 (p c : Nat → Int32) (pr r : Int32) : f_X5_copy 20 20 p pr c r = some (va_cpy p c 0 0 20, pr) := by
  unfold f_X5_copy; rw [if_pos rfl, if_pos (by decide)]; rfl
theorem q_cp30 (p c : Nat → Int32) (pr r : Int32) : f_X5_copy 30 30 p pr c r = some (va_cpy p c 0 0 30, pr) := by
  unfold f_X5_copy; rw [if_pos rfl, if_pos (by decide)]; rfl
theorem q_cp18 (p c : Nat → Int32) (pr r : Int32) : f_X5_copy 18 18 p pr c r = some (va_cpy p c 0 0 18, pr) := by
  unfold f_X5_copy; rw [if_pos rfl, if_pos (by decide)]; rfl
theorem q_cp192 (p c : Nat → Int32) (pr r : Int32) : f_X5_copy 192 192 p pr c r = some (va_cpy p c 0 0 192, pr) := by
  unfold f_X5_copy; rw [if_pos rfl, if_pos (by decide)]; rfl
theorem va_lt {p c : Nat → Int32} {n k : Nat} (h : k < n) : va_cpy p c 0 0 n k = p k := by
  unfold va_cpy; rw [if_pos (by omega)]; congr 1; omega
/-- a house is copied into another -/
theorem q_hcopy (w gc sc rc kc pc w' gc' sc' rc' kc' pc' : Nat → Int32) (gn sn rn kn pn host rooms night wheels turned gn' sn' rn' kn' pn' h1 h2 h3 h4 h5 : Int32) : f_X1_copy w gc gn sc sn rc rn kc kn pc pn host rooms night wheels turned w' gc' gn' sc' sn' rc' rn' kc' kn' pc' pn' h1 h2 h3 h4 h5 = some (cp w' w 0 0 6, va_cpy gc gc' 0 0 28, gn, va_cpy sc sc' 0 0 20, sn, va_cpy rc rc' 0 0 30, rn, va_cpy kc kc' 0 0 18, kn, va_cpy pc pc' 0 0 192, pn, host, rooms, night, wheels, turned) := by
  have loop : ∀ (d j fu : Nat), j + d = 6 → d < fu → f_X1_copy_b42 w gc gn sc sn rc rn kc kn pc pn host rooms night wheels turned fu (cp w' w 0 0 j) gc' gn' sc' sn' rc' rn' kc' kn' pc' pn' host rooms night wheels turned (nI j) = some (cp w' w 0 0 6, va_cpy gc gc' 0 0 28, gn, va_cpy sc sc' 0 0 20, sn, va_cpy rc rc' 0 0 30, rn, va_cpy kc kc' 0 0 18, kn, va_cpy pc pc' 0 0 192, pn, host, rooms, night, wheels, turned) := by
    intro d
    induction d with
    | zero =>
      intro j fu e1 e2
      obtain ⟨fu, rfl⟩ : ∃ k, fu = k + 1 := ⟨fu - 1, by omega⟩
      rw [f_X1_copy_b42, show j = 6 by omega, if_pos (show (6 : Int32) ≤ nI 6 by decide), q_cp28, b_some, q_cp20, b_some, q_cp30, b_some, q_cp18, b_some, q_cp192, b_some]
    | succ d ih =>
      intro j fu e1 e2
      obtain ⟨fu, rfl⟩ : ∃ k, fu = k + 1 := ⟨fu - 1, by omega⟩
      have h := ih (j + 1) fu (by omega) (by omega)
      rw [f_X1_copy_b42, if_neg (show ¬ (6 : Int32) ≤ nI j from nI_ge (b := 6) (by omega) (by decide)), q_wetOf w (by omega), b_some, show j % 6 = j by omega, q_setWet _ _ (by omega), b_some, show nI j + (1 : Int32) = nI (j + 1) from na_add j 1]
      rw [← cp_step, Nat.zero_add] at h
      exact h
  have h := loop 6 0 s_fuel (by omega) (by unfold s_fuel; omega)
  rw [cp_zero] at h
  exact h
theorem HR.copied {w gc sc rc kc pc m w' gc' sc' rc' kc' pc' m' : Nat → Int32} {gn sn rn kn pn host rooms night wheels turned : Int32} (h : HR w gc gn sc sn rc rn kc kn pc pn host rooms night wheels turned m) (em : ∀ k, k < 250 → m' k = m k) : HR (cp w' w 0 0 6) (va_cpy gc gc' 0 0 28) gn (va_cpy sc sc' 0 0 20) sn (va_cpy rc rc' 0 0 30) rn (va_cpy kc kc' 0 0 18) kn (va_cpy pc pc' 0 0 192) pn host rooms night wheels turned m' :=
  h.cells (fun k hk => by have e := cp_in (f := w') (g := w) (a := 0) (b := 0) hk; rw [Nat.zero_add] at e; exact e) (fun k hk => va_lt hk) (fun k hk => va_lt hk) (fun k hk => va_lt hk) (fun k hk => va_lt hk) (fun k hk => va_lt hk) em
theorem q_image9 {m kept : Nat → Int32} (ik r : Nat → Int32) {i : Nat} (hi : i < 2) : f_X9_image_b19 m s_fuel kept ik r (nI i) 0 = some (1, cp kept m (250 * i) 0 250, upd ik i 1, r) := by
  have loop : ∀ (d j fu : Nat), j + d = 250 → d < fu → f_X9_image_b19 m fu (cp kept m (250 * i) 0 j) ik r (nI i) (nI j) = some (1, cp kept m (250 * i) 0 250, upd ik i 1, r) := by
    intro d
    induction d with
    | zero =>
      intro j fu e1 e2
      obtain ⟨fu, rfl⟩ : ∃ k, fu = k + 1 := ⟨fu - 1, by omega⟩
      rw [f_X9_image_b19, show j = 250 by omega, if_pos (show (250 : Int32) ≤ nI 250 by decide), if_pos (nI_in (by omega) (by decide)), nI_clamp (by omega)]; rfl
    | succ d ih =>
      intro j fu e1 e2
      obtain ⟨fu, rfl⟩ : ∃ k, fu = k + 1 := ⟨fu - 1, by omega⟩
      have h := ih (j + 1) fu (by omega) (by omega)
      rw [f_X9_image_b19, if_neg (show ¬ (250 : Int32) ≤ nI j from nI_ge (b := 250) (by omega) (by decide)), if_pos (nI_in (by omega) (by decide)), show (250 : Int32) * nI i = nI (250 * i) from na_mul 250 i, na_add, if_pos (nI_in (by omega) (by decide)), nI_clamp (by omega), nI_clamp (by omega), show nI j + (1 : Int32) = nI (j + 1) from na_add j 1]
      rw [← cp_step, Nat.zero_add] at h
      exact h
  have h := loop 250 0 s_fuel (by omega) (by unfold s_fuel; omega)
  rw [cp_zero] at h
  exact h
theorem q_from9 {m kept : Nat → Int32} (ik r : Nat → Int32) {i : Nat} (hi : i < 2) : f_X9_from_b33 kept ik s_fuel m r (nI i) 0 = some (1, cp m kept 0 (250 * i) 250, r) := by
  have loop : ∀ (d j fu : Nat), j + d = 250 → d < fu → f_X9_from_b33 kept ik fu (cp m kept 0 (250 * i) j) r (nI i) (nI j) = some (1, cp m kept 0 (250 * i) 250, r) := by
    intro d
    induction d with
    | zero =>
      intro j fu e1 e2
      obtain ⟨fu, rfl⟩ : ∃ k, fu = k + 1 := ⟨fu - 1, by omega⟩
      rw [f_X9_from_b33, show j = 250 by omega, if_pos (show (250 : Int32) ≤ nI 250 by decide)]
    | succ d ih =>
      intro j fu e1 e2
      obtain ⟨fu, rfl⟩ : ∃ k, fu = k + 1 := ⟨fu - 1, by omega⟩
      have h := ih (j + 1) fu (by omega) (by omega)
      rw [f_X9_from_b33, if_neg (show ¬ (250 : Int32) ≤ nI j from nI_ge (b := 250) (by omega) (by decide)), show (250 : Int32) * nI i = nI (250 * i) from na_mul 250 i, na_add, if_pos (nI_in (by omega) (by decide)), if_pos (nI_in (by omega) (by decide)), nI_clamp (by omega), nI_clamp (by omega), show nI j + (1 : Int32) = nI (j + 1) from na_add j 1]
      rw [← cp_step, Nat.zero_add] at h
      exact h
  have h := loop 250 0 s_fuel (by omega) (by unfold s_fuel; omega)
  rw [cp_zero] at h
  exact h
/-- what is counted -/
def cnt (m : Nat → Int32) (bl : Int32) (n j : Nat) : Int32 := if j = 0 then m 0 else if j = 1 then nI (pcount (m 19)) else if j = 2 then m 22 else if j = 3 then isum (fun i => m (12 + i)) n else if j < 8 then m (j - 3) else bl
theorem q_counted9 {m : Nat → Int32} {bl : Int32} {n I j : Nat} (hm : m 0 = nI n) (hn : n ≤ 7) (h19 : m 19 = nI I) (hI : I < 128) (hj : j ≤ 8) : f_X9_counted m bl (nI j) = some (cnt m bl n j) := by
  have loop : ∀ (d i fu : Nat), i + d = n → d < fu → f_X9_counted_b4 m bl fu (nI j) (isum (fun i => m (12 + i)) i) (nI i) = some (cnt m bl n j) := by
    intro d
    induction d with
    | zero =>
      intro i fu e1 e2
      obtain ⟨fu, rfl⟩ : ∃ k, fu = k + 1 := ⟨fu - 1, by omega⟩
      have e : i = n := by omega
      subst e
      rw [f_X9_counted_b4]
      show (if m 0 ≤ nI i then _ else _) = _
      rw [if_pos (by rw [hm]; exact nI_le (by omega) (by omega))]
      rcases (show j = 0 ∨ j = 1 ∨ j = 2 ∨ j = 3 ∨ j = 4 ∨ j = 5 ∨ j = 6 ∨ j = 7 ∨ j = 8 by omega) with rfl | rfl | rfl | rfl | rfl | rfl | rfl | rfl | rfl
      · rfl
      · show (f_X9_bits (m 19)).bind _ = _
        rw [h19, bt_bits ⟨I, hI⟩, b_some]
        unfold cnt
        rw [h19]; rfl
      all_goals rfl
    | succ d ih =>
      intro i fu e1 e2
      obtain ⟨fu, rfl⟩ : ∃ k, fu = k + 1 := ⟨fu - 1, by omega⟩
      have h := ih (i + 1) fu (by omega) (by omega)
      rw [f_X9_counted_b4]
      show (if m 0 ≤ nI i then _ else _) = _
      rw [if_neg (by rw [hm]; exact nI_ge (by omega) (by omega)), show (12 : Int32) + nI i = nI (12 + i) from na_add 12 i, if_pos (nI_in (by omega) (by decide)), nI_clamp (by omega), show nI i + (1 : Int32) = nI (i + 1) from na_add i 1]
      exact h
  exact loop n 0 s_fuel (by omega) (by unfold s_fuel; omega)
theorem q_counted {gc m : Nat → Int32} {gn sn rn kn pn night bl : Int32} {n j : Nat} (hG : GG gc m) (hg : gn = nI n) (hm : m 0 = nI n) (hn : n ≤ 7) (h1 : sn = m 1) (h2 : rn = m 2) (h3 : kn = m 3) (h4 : pn = m 4) (h5 : night = m 22) (hj : j ≤ 8) : f_X8_counted gc gn sn rn kn pn night bl (nI j) = some (cnt m bl n j) := by
  rcases (show j = 0 ∨ j = 1 ∨ j = 2 ∨ j = 3 ∨ j = 4 ∨ j = 5 ∨ j = 6 ∨ j = 7 ∨ j = 8 by omega) with rfl | rfl | rfl | rfl | rfl | rfl | rfl | rfl | rfl
  · exact congrArg some (hg.trans hm.symm)
  · show (f_X1_howManyIn gc gn).bind _ = _
    rw [q_howMany hG hg hm hn, b_some]; rfl
  · exact congrArg some h5
  · show (f_X5_sum 28 4 gc gn 2).bind _ = _
    rw [gsum2 gc hg hn, b_some]
    refine congrArg some (isum_congr n (fun i hi => ?_))
    obtain ⟨g1, g2, g3, g4⟩ := hG.2.2.2 i (by rw [hm, nI_toInt (by omega)]; omega)
    rw [Nat.mul_comm i 4]; exact g3
  · exact congrArg some h1
  · exact congrArg some h2
  · exact congrArg some h3
  · exact congrArg some h4
  · rfl
/-- so many more into what is told of all -/
def dg (f : Nat → Int32) (a : Int64) : Nat → Int64
  | 0 => a
  | n + 1 => 31 * dg f a n + (f n).toInt64
theorem dg_congr {f g : Nat → Int32} (a : Int64) : ∀ n : Nat, (∀ k, k < n → f k = g k) → dg f a n = dg g a n := by
  intro n
  induction n with
  | zero => intro _; rfl
  | succ n ih => intro h; rw [dg, dg, ih (fun k hk => h k (by omega)), h n (by omega)]
theorem dg_app (f : Nat → Int32) (a : Int64) (n : Nat) : ∀ k : Nat, dg f a (n + k) = dg (fun j => f (n + j)) (dg f a n) k := by
  intro k
  induction k with
  | zero => rfl
  | succ k ih => rw [← Nat.add_assoc, dg, dg, ih]
theorem q_sums {m : Nat → Int32} (a : Int64) {B L : Nat} (h : B + L ≤ 250) : f_X9_sums m a (nI B) (nI L) = some (dg (fun k => m (B + k)) a L) := by
  have loop : ∀ (d j fu : Nat), j + d = L → d < fu → f_X9_sums_b6 m fu (nI B) (nI L) (dg (fun k => m (B + k)) a j) (nI j) = some (dg (fun k => m (B + k)) a L) := by
    intro d
    induction d with
    | zero =>
      intro j fu e1 e2
      obtain ⟨fu, rfl⟩ : ∃ k, fu = k + 1 := ⟨fu - 1, by omega⟩
      rw [f_X9_sums_b6, if_pos (nI_le (by omega) (by omega)), show j = L by omega]
    | succ d ih =>
      intro j fu e1 e2
      obtain ⟨fu, rfl⟩ : ∃ k, fu = k + 1 := ⟨fu - 1, by omega⟩
      have h := ih (j + 1) fu (by omega) (by omega)
      rw [f_X9_sums_b6, if_neg (nI_ge (by omega) (by omega)), na_add, if_pos (nI_in (by omega) (by decide)), nI_clamp (by omega), show nI j + (1 : Int32) = nI (j + 1) from na_add j 1]
      exact h
  exact loop L 0 s_fuel (by omega) (by unfold s_fuel; omega)
theorem q_digestOn {N W R : Nat} {w rows : Int32} (cells : Nat → Int32) (a : Int64) (hw : w = nI W) (hR : rows = nI R) (hN : R * W ≤ N) (hN2 : N < 300) (hW0 : 0 < W) (hW : W < 300) (hRs : R < 300) : f_X5_digestOn N w cells rows a = some (dg cells a (R * W)) := by
  have inner : ∀ (k : Int64 → Int32 → Option Int64) (i : Nat), i < R → ∀ (d j fu : Nat), j + d = W → d < fu → f_X5_digestOn_b13 k N w cells rows fu (dg cells a (i * W + j)) (nI i) (nI j) = k (dg cells a ((i + 1) * W)) (nI (i + 1)) := by
    intro k i hi d
    induction d with
    | zero =>
      intro j fu e1 e2
      obtain ⟨fu, rfl⟩ : ∃ k, fu = k + 1 := ⟨fu - 1, by omega⟩
      rw [f_X5_digestOn_b13, hw, if_pos (nI_le (by omega) (by omega)), show nI i + (1 : Int32) = nI (i + 1) from na_add i 1, Nat.succ_mul, show j = W by omega]
    | succ d ih =>
      intro j fu e1 e2
      obtain ⟨fu, rfl⟩ : ∃ k, fu = k + 1 := ⟨fu - 1, by omega⟩
      have h := ih (j + 1) fu (by omega) (by omega)
      rw [f_X5_digestOn_b13, if_neg (by rw [hw]; exact nI_ge (by omega) (by omega)), q_cell (N := N) (W := W) (R := R) (i := i) (j := j) cells hw hR rfl rfl hi (by omega) hN (by omega) (by omega) (by omega), b_some, show nI j + (1 : Int32) = nI (j + 1) from na_add j 1]
      exact h
  have outer : ∀ (d i fu : Nat), i + d = R → d < fu → f_X5_digestOn_b2 N w cells rows fu (dg cells a (i * W)) (nI i) = some (dg cells a (R * W)) := by
    intro d
    induction d with
    | zero =>
      intro i fu e1 e2
      obtain ⟨fu, rfl⟩ : ∃ k, fu = k + 1 := ⟨fu - 1, by omega⟩
      rw [f_X5_digestOn_b2, hR, if_pos (nI_le (by omega) (by omega)), show i = R by omega]
    | succ d ih =>
      intro i fu e1 e2
      obtain ⟨fu, rfl⟩ : ∃ k, fu = k + 1 := ⟨fu - 1, by omega⟩
      rw [f_X5_digestOn_b2, if_neg (by rw [hR]; exact nI_ge (by omega) (by omega))]
      have h := inner (f_X5_digestOn_b2 N w cells rows fu) i (by omega) W 0 s_fuel (by omega) (by unfold s_fuel; omega)
      rw [Nat.add_zero] at h
      exact h.trans (ih (i + 1) fu (by omega) (by omega))
  have h := outer R 0 s_fuel (by omega) (by unfold s_fuel; omega)
  rw [Nat.zero_mul] at h
  exact h
/-- what stands -/
def std (m : Nat → Int32) (j : Nat) : Int32 := if j = 0 then m 23 else if j = 1 then m 24 else if j = 2 then m 20 else m 21
theorem q_std {wets m : Nat → Int32} {gn sn rn kn pn host rooms night wheels turned : Int32} (h : G0 gn sn rn kn pn host rooms night wheels turned m) {j : Nat} (hj : j < 4) : f_X8_standing wets host rooms night wheels turned (nI j) = some (std m j) ∧ f_X9_toldNow m (nI j) = some (std m j) := by
  obtain ⟨a1, a2, a3, a4, a5, a6, a7, a8, a9, a10, b1, b2, b3, b4, b5, b6, b7, b8, b9, b10⟩ := h
  rcases (show j = 0 ∨ j = 1 ∨ j = 2 ∨ j = 3 by omega) with rfl | rfl | rfl | rfl
  · exact ⟨congrArg some a6, rfl⟩
  · exact ⟨congrArg some a7, rfl⟩
  · exact ⟨congrArg some a9, rfl⟩
  · exact ⟨congrArg some a10, rfl⟩
theorem q_told4 {gc m : Nat → Int32} {gn : Int32} {n i j : Nat} (hG : GG gc m) (hg : gn = nI n) (hm : m 0 = nI n) (hn : n ≤ 7) (hi : i < n) (hj : j < 4) : f_X9_toldOf m (nI i) (nI j) = some (gc (4 * i + j)) := by
  obtain ⟨v, e1, e2⟩ := q_toldOf hG hg hm hn hi (m 22) rfl (nI j) ⟨by rw [nI_toInt (by omega)]; show (0 : Int) ≤ _; omega, by rw [nI_toInt (by omega)]; show _ ≤ (4 : Int); omega⟩
  have h := e1 0
  rw [if_neg (fun q => by have := (nI_eq (by omega) (by decide)).mp (show nI j = nI 4 from q); omega)] at h
  rw [q_cell (N := 28) (W := 4) (w := 4) (R := n) (i := i) (j := j) gc rfl hg rfl rfl hi hj (by omega) (by decide) (by omega) (by decide), b_some, Nat.mul_comm i 4] at h
  rw [e2]
  have h2 := Option.some.inj h
  exact congrArg some (congrArg Prod.fst h2).symm
