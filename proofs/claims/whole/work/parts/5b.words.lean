/-! words, numbers, stops -/
theorem bi01 (b : Bool) : bi b = 0 ∨ bi b = 1 := by cases b <;> decide
theorem allb_mono {f : Nat → Bool} {k : Nat} (h : allb f k = false) : ∀ d : Nat, allb f (k + d) = false
  | 0 => h
  | d + 1 => by rw [← Nat.add_assoc, allb, allb_mono h d, Bool.false_and]
def wd6 (c1 c2 c3 c4 c5 c6 : Int32) (k : Nat) : Int32 := if k = 0 then c1 else if k = 1 then c2 else if k = 2 then c3 else if k = 3 then c4 else if k = 4 then c5 else c6
def spl (B : Nat → Nat) (W : Nat → Int32) (a l kd L : Nat) : Bool := (decide (kd = 1) && decide (l = L)) && allb (fun k => decide (nI (B (a + k)) = W k)) L
section QWD
variable {cb mb : Nat → Int32} {B : Nat → Nat} {n : Nat}
theorem q_names (h : BY cb mb B n) {a l kd L w : Nat} {W : Nat → Int32} (hal : a + l ≤ n) (hkd : kd ≤ 4) (hL6 : L ≤ 6) (hlen : f_J0_length_8abf5 w = some (nI L)) (hch : ∀ k : Nat, k < L → f_J0_charAt_5068e w (nI k) = some (W k)) : f_X4_names cb (nI n) (nI (a + l)) (nI a) (nI kd) w = some (bi (spl B W a l kd L)) := by
  have h150 := h.1
  unfold f_X4_names spl
  by_cases e1 : kd = 1
  · rw [if_pos (show nI kd = (1 : Int32) by rw [e1] <;> rfl), hlen, b_some, decide_eq_true e1, Bool.true_and, show nI (a + l) - nI a = nI l by rw [na_sub (by omega), show a + l - a = l by omega]]
    by_cases e2 : l = L
    · rw [if_pos (by rw [e2]), decide_eq_true e2, Bool.true_and]
      have loop : ∀ (d k fu : Nat), k + d = L → d < fu → allb (fun k => decide (nI (B (a + k)) = W k)) k = true → f_X4_names_b28 cb (nI n) (nI (a + l)) (nI a) (nI kd) w fu (nI k) = some (bi (allb (fun k => decide (nI (B (a + k)) = W k)) L)) := by
        intro d
        induction d with
        | zero =>
          intro k fu h1 h2 h3
          obtain ⟨fu, rfl⟩ : ∃ k, fu = k + 1 := ⟨fu - 1, by omega⟩
          have e : k = L := by omega
          rw [f_X4_names_b28, hlen, b_some, if_pos (nI_le (by omega) (by omega)), ← e, h3]; rfl
        | succ d ih =>
          intro k fu h1 h2 h3
          obtain ⟨fu, rfl⟩ : ∃ k, fu = k + 1 := ⟨fu - 1, by omega⟩
          rw [f_X4_names_b28, hlen, b_some, if_neg (nI_ge (by omega) (by omega)), na_add, q_at h (by omega), b_some, hch k (by omega), b_some]
          by_cases z : nI (B (a + k)) = W k
          · rw [if_pos z, show nI k + (1 : Int32) = nI (k + 1) from na_add k 1]
            refine ih (k + 1) fu (by omega) (by omega) ?_
            rw [allb, h3, decide_eq_true z]; rfl
          · rw [if_neg z, allb_no (f := fun k => decide (nI (B (a + k)) = W k)) (j := k) (decide_eq_false z) L (by omega)]; rfl
      exact loop L 0 s_fuel (by omega) (by unfold s_fuel; omega) rfl
    · rw [if_neg (show ¬ nI l = nI L from fun q => e2 ((nI_eq (by omega) (by omega)).mp q)), decide_eq_false e2, Bool.false_and]; rfl
  · rw [if_neg (show ¬ nI kd = (1 : Int32) from fun q => e1 ((nI_eq (by omega) (by decide)).mp (show nI kd = nI 1 from q))), decide_eq_false e1, Bool.false_and, Bool.false_and]; rfl
theorem q_spells (h : BY cb mb B n) {a l kd L : Nat} (c1 c2 c3 c4 c5 c6 : Int32) (hal : a + l ≤ n) (hkd : kd ≤ 4) (hL6 : L ≤ 6) : f_X9_spells mb (nI a) (nI l) (nI kd) (nI L) c1 c2 c3 c4 c5 c6 = some (bi (spl B (wd6 c1 c2 c3 c4 c5 c6) a l kd L)) := by
  have h150 := h.1
  have zero : f_X9_spells_b20 mb (nI a) (nI l) (nI kd) (nI L) c1 c2 c3 c4 c5 c6 = some 0 := by
    unfold f_X9_spells_b20 f_X9_spells_b21
    rw [show s_fuel = 5999 + 1 from rfl, f_X9_spells_b26, if_pos rfl, if_pos (Or.inl rfl), ite_self]
  unfold f_X9_spells spl
  by_cases e1 : kd = 1
  · rw [if_pos (show nI kd = (1 : Int32) by rw [e1] <;> rfl), decide_eq_true e1, Bool.true_and]
    by_cases e2 : l = L
    · rw [if_pos (by rw [e2]), decide_eq_true e2, Bool.true_and]
      have loop : ∀ (d k fu : Nat), k + d = L → d < fu → f_X9_spells_b26 mb (nI a) (nI l) (nI kd) fu (nI L) c1 c2 c3 c4 c5 c6 (bi (allb (fun k => decide (nI (B (a + k)) = wd6 c1 c2 c3 c4 c5 c6 k)) k)) (nI k) = some (bi (allb (fun k => decide (nI (B (a + k)) = wd6 c1 c2 c3 c4 c5 c6 k)) L)) := by
        intro d
        induction d with
        | zero =>
          intro k fu h1 h2
          obtain ⟨fu, rfl⟩ : ∃ k, fu = k + 1 := ⟨fu - 1, by omega⟩
          have e : k = L := by omega
          rw [f_X9_spells_b26, if_pos (nI_le (by omega) (by omega)), if_pos (bi01 _), e]
        | succ d ih =>
          intro k fu h1 h2
          obtain ⟨fu, rfl⟩ : ∃ k, fu = k + 1 := ⟨fu - 1, by omega⟩
          have hi := ih (k + 1) fu (by omega) (by omega)
          rw [allb] at hi
          rw [f_X9_spells_b26, if_neg (nI_ge (by omega) (by omega))]
          cases hj : allb (fun k => decide (nI (B (a + k)) = wd6 c1 c2 c3 c4 c5 c6 k)) k with
          | false =>
            have := allb_mono hj (d + 1)
            rw [show k + (d + 1) = L by omega] at this
            rw [if_pos bi_f, if_pos (bi01 _), this]
          | true =>
            rw [hj, Bool.true_and] at hi
            have sel : ∀ X : Int32 → Option Int32, (if nI k = 0 then X c1 else (if nI k = (1 : Int32) then X c2 else (if nI k = (2 : Int32) then X c3 else (if nI k = (3 : Int32) then X c4 else (if nI k = (4 : Int32) then X c5 else X c6))))) = X (wd6 c1 c2 c3 c4 c5 c6 k) := fun X => by
              rcases (show k = 0 ∨ k = 1 ∨ k = 2 ∨ k = 3 ∨ k = 4 ∨ k = 5 by omega) with e | e | e | e | e | e <;> subst e <;> rfl
            have hb : mb (a + k) = nI (B (a + k)) := (h.2 (a + k) (by omega)).2.1
            rw [if_neg bi_t, na_add, if_pos (nI_in (show a + k < 150 by omega) (by decide)), nI_clamp (by omega), hb]
            refine (sel (fun c => f_X9_spells_b103 (f_X9_spells_b26 mb (nI a) (nI l) (nI kd) fu) mb (nI a) (nI l) (nI kd) (nI L) c1 c2 c3 c4 c5 c6 (nI k) c (nI (B (a + k))))).trans ?_
            unfold f_X9_spells_b103 f_X9_spells_b111
            rw [show nI k + (1 : Int32) = nI (k + 1) from na_add k 1]
            by_cases z : nI (B (a + k)) = wd6 c1 c2 c3 c4 c5 c6 k
            · rw [decide_eq_true z] at hi
              rw [if_pos z]; exact hi
            · rw [decide_eq_false z] at hi
              rw [if_neg z]; exact hi
      exact loop L 0 s_fuel (by omega) (by unfold s_fuel; omega)
    · rw [if_neg (show ¬ nI l = nI L from fun q => e2 ((nI_eq (by omega) (by omega)).mp q)), decide_eq_false e2, Bool.false_and, zero]; rfl
  · rw [if_neg (show ¬ nI kd = (1 : Int32) from fun q => e1 ((nI_eq (by omega) (by decide)).mp (show nI kd = nI 1 from q))), decide_eq_false e1, Bool.false_and, Bool.false_and, zero]; rfl
theorem chars : (∀ k : Fin 3, f_J0_charAt_5068e 0 (nI k.val) = some (wd6 105 110 110 0 0 0 k.val)) ∧ (∀ k : Fin 3, f_J0_charAt_5068e 1 (nI k.val) = some (wd6 119 101 116 0 0 0 k.val)) ∧ (∀ k : Fin 3, f_J0_charAt_5068e 2 (nI k.val) = some (wd6 111 110 101 0 0 0 k.val)) ∧ (∀ k : Fin 4, f_J0_charAt_5068e 3 (nI k.val) = some (wd6 99 111 109 101 0 0 k.val)) ∧ (∀ k : Fin 2, f_J0_charAt_5068e 4 (nI k.val) = some (wd6 103 111 0 0 0 0 k.val)) ∧ (∀ k : Fin 6, f_J0_charAt_5068e 5 (nI k.val) = some (wd6 108 101 116 116 101 114 k.val)) ∧ (∀ k : Fin 6, f_J0_charAt_5068e 6 (nI k.val) = some (wd6 110 105 103 104 116 115 k.val)) := by decide +kernel
/-- the seven words: both know them alike -/
theorem q_words (h : BY cb mb B n) {a l kd : Nat} (hal : a + l ≤ n) (hkd : kd ≤ 4) : (∃ x : Bool, f_X4_names cb (nI n) (nI (a + l)) (nI a) (nI kd) 0 = some (bi x) ∧ f_X9_spells mb (nI a) (nI l) (nI kd) (3 : Int32) 105 110 110 0 0 0 = some (bi x)) ∧ (∃ x : Bool, f_X4_names cb (nI n) (nI (a + l)) (nI a) (nI kd) 1 = some (bi x) ∧ f_X9_spells mb (nI a) (nI l) (nI kd) (3 : Int32) 119 101 116 0 0 0 = some (bi x)) ∧ (∃ x : Bool, f_X4_names cb (nI n) (nI (a + l)) (nI a) (nI kd) 2 = some (bi x) ∧ f_X9_spells mb (nI a) (nI l) (nI kd) (3 : Int32) 111 110 101 0 0 0 = some (bi x)) ∧ (∃ x : Bool, f_X4_names cb (nI n) (nI (a + l)) (nI a) (nI kd) 3 = some (bi x) ∧ f_X9_spells mb (nI a) (nI l) (nI kd) (4 : Int32) 99 111 109 101 0 0 = some (bi x)) ∧ (∃ x : Bool, f_X4_names cb (nI n) (nI (a + l)) (nI a) (nI kd) 4 = some (bi x) ∧ f_X9_spells mb (nI a) (nI l) (nI kd) (2 : Int32) 103 111 0 0 0 0 = some (bi x)) ∧ (∃ x : Bool, f_X4_names cb (nI n) (nI (a + l)) (nI a) (nI kd) 5 = some (bi x) ∧ f_X9_spells mb (nI a) (nI l) (nI kd) (6 : Int32) 108 101 116 116 101 114 = some (bi x)) ∧ (∃ x : Bool, f_X4_names cb (nI n) (nI (a + l)) (nI a) (nI kd) 6 = some (bi x) ∧ f_X9_spells mb (nI a) (nI l) (nI kd) (6 : Int32) 110 105 103 104 116 115 = some (bi x)) := by
  obtain ⟨k0, k1, k2, k3, k4, k5, k6⟩ := chars
  exact ⟨⟨_, q_names h hal hkd (by decide) rfl (fun k hk => k0 ⟨k, hk⟩), q_spells h (L := 3) _ _ _ _ _ _ hal hkd (by decide)⟩, ⟨_, q_names h hal hkd (by decide) rfl (fun k hk => k1 ⟨k, hk⟩), q_spells h (L := 3) _ _ _ _ _ _ hal hkd (by decide)⟩, ⟨_, q_names h hal hkd (by decide) rfl (fun k hk => k2 ⟨k, hk⟩), q_spells h (L := 3) _ _ _ _ _ _ hal hkd (by decide)⟩, ⟨_, q_names h hal hkd (by decide) rfl (fun k hk => k3 ⟨k, hk⟩), q_spells h (L := 4) _ _ _ _ _ _ hal hkd (by decide)⟩, ⟨_, q_names h hal hkd (by decide) rfl (fun k hk => k4 ⟨k, hk⟩), q_spells h (L := 2) _ _ _ _ _ _ hal hkd (by decide)⟩, ⟨_, q_names h hal hkd (by decide) rfl (fun k hk => k5 ⟨k, hk⟩), q_spells h (L := 6) _ _ _ _ _ _ hal hkd (by decide)⟩, ⟨_, q_names h hal hkd (by decide) rfl (fun k hk => k6 ⟨k, hk⟩), q_spells h (L := 6) _ _ _ _ _ _ hal hkd (by decide)⟩⟩
theorem q_behind {p a l k v a' l' k' v' : Nat} (hT : TK cb mb B n p a l k v) (hT' : TK cb mb B n (a + l) a' l' k' v') (x1 x2 : Int32) : f_X9_goBehind mb (nI n) (nI a) (nI l) x1 x2 = some (nI a', nI l', nI k', nI v') := by
  unfold f_X9_goBehind
  rw [na_add, hT'.1, b_some]
theorem q_numW {p a l k v : Nat} (hT : TK cb mb B n p a l k v) (lo hi s t x : Int32) : ∃ y : Int32, f_X6_numberWithin cb (nI n) (nI p) s t x lo hi = some (if k = 2 ∧ ¬ ib (nI v) lo hi = 0 then nI v else -1, nI (a + l), nI a, nI k, y) := by
  obtain ⟨y, e1, e2⟩ := hT.2.1 s t x
  have hk4 := hT.2.2.2.2.1
  refine ⟨y, ?_⟩
  unfold f_X6_numberWithin f_X6_isNumberWithin
  rw [e1, b_some]
  dsimp only
  by_cases z : k = 2
  · have hy := e2 z
    rw [if_pos (show nI k = (2 : Int32) by rw [z] <;> rfl), q_within, b_some, hy]
    by_cases w : ib (nI v) lo hi = 0
    · rw [if_pos w, b_some, if_pos rfl, if_neg (fun q => by exact q.2 w)]
    · rw [if_neg w, b_some, if_neg no10, if_pos ⟨z, w⟩]
  · rw [if_neg (show ¬ nI k = (2 : Int32) from fun q => z ((nI_eq (by omega) (by decide)).mp (show nI k = nI 2 from q))), b_some, if_pos rfl, if_neg (fun q => by exact z q.1)]
theorem q_takes {p a l k v a' l' k' v' : Nat} (hT : TK cb mb B n p a l k v) (hT' : TK cb mb B n (a + l) a' l' k' v') {j : Nat} (hj : j < 2) (lo hi : Int32) (vals : Nat → Int32) : f_X9_takes mb (nI n) (nI a) (nI l) (nI k) (nI v) vals (nI j) lo hi = if k = 2 ∧ ¬ ib (nI v) lo hi = 0 then some (1, nI a', nI l', nI k', nI v', upd vals j (nI v)) else some (0, nI a, nI l, nI k, nI v, vals) := by
  have hk4 := hT.2.2.2.2.1
  unfold f_X9_takes
  by_cases z : k = 2
  · rw [if_pos (show nI k = (2 : Int32) by rw [z] <;> rfl), q_in, b_some]
    by_cases w : ib (nI v) lo hi = 0
    · rw [if_pos w, if_neg (fun q => by exact q.2 w)]
    · rw [if_neg w, if_pos (nI_in hj (by decide)), q_behind hT hT', b_some, nI_clamp (by omega), if_pos ⟨z, w⟩]
  · rw [if_neg (show ¬ nI k = (2 : Int32) from fun q => z ((nI_eq (by omega) (by decide)).mp (show nI k = nI 2 from q))), if_neg (fun q => by exact z q.1)]
theorem q_stops {p a l k v : Nat} (hT : TK cb mb B n p a l k v) (s t x : Int32) : ∃ y : Int32, f_X6_stops cb (nI n) (nI p) s t x = some (bi (decide (k = 3)), nI (a + l), nI a, nI k, y) := by
  obtain ⟨y, e1, -⟩ := hT.2.1 s t x
  have hk4 := hT.2.2.2.2.1
  refine ⟨y, ?_⟩
  unfold f_X6_stops
  rw [e1, b_some]
  dsimp only
  by_cases z : k = 3
  · rw [if_pos (show nI k = (3 : Int32) by rw [z] <;> rfl), decide_eq_true z]; rfl
  · rw [if_neg (show ¬ nI k = (3 : Int32) from fun q => z ((nI_eq (by omega) (by decide)).mp (show nI k = nI 3 from q))), decide_eq_false z]; rfl
end QWD
