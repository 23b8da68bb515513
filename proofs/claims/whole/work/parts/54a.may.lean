theorem no01 : ¬ (0 : Int32) = 1 := by decide
theorem no10 : ¬ (1 : Int32) = 0 := by decide
theorem q_layHand {m : Nat → Int32} (hd : Nat → Int32) : f_X9_layHand m hd = some (cp hd m 0 0 38) := by
  have loop : ∀ (d j fu : Nat), j + d = 38 → d < fu → f_X9_layHand_b2 m fu (cp hd m 0 0 j) (nI j) = some (cp hd m 0 0 38) := by
    intro d
    induction d with
    | zero =>
      intro j fu h1 h2
      obtain ⟨fu, rfl⟩ : ∃ k, fu = k + 1 := ⟨fu - 1, by omega⟩
      rw [f_X9_layHand_b2, show j = 38 by omega, if_pos (show (38 : Int32) ≤ nI 38 by decide)]
    | succ d ih =>
      intro j fu h1 h2
      obtain ⟨fu, rfl⟩ : ∃ k, fu = k + 1 := ⟨fu - 1, by omega⟩
      rw [f_X9_layHand_b2, if_neg (show ¬ (38 : Int32) ≤ nI j from nI_ge (b := 38) (by omega) (by decide)), if_pos (nI_in (by omega) (by decide)), if_pos (nI_in (by omega) (by decide)), nI_clamp (by omega), show nI j + (1 : Int32) = nI (j + 1) from na_add j 1]
      have h := ih (j + 1) fu (by omega) (by omega)
      rw [← cp_step, Nat.zero_add] at h
      exact h
  have h := loop 38 0 s_fuel (by omega) (by unfold s_fuel; omega)
  rw [cp_zero] at h
  exact h
theorem lay_get {m hd : Nat → Int32} {k : Nat} (h : k < 38) : cp hd m 0 0 38 k = m k := by
  have := cp_in (f := hd) (g := m) (a := 0) (b := 0) h
  rw [Nat.zero_add] at this
  exact this
theorem op_congr {m f : Nat → Int32} {i : Nat} (x : Int32) (h : ∀ k : Nat, (k < 25 ∨ k = 31 + i) → f k = m k) (hi : i < 7) : op f i x = op m i x := by
  unfold op
  rw [h 24 (by omega), h 19 (by omega), h 23 (by omega), h 20 (by omega), h (31 + i) (by omega), h (5 + i) (by omega), h (12 + i) (by omega), h 22 (by omega)]
section QM
variable {wets gc m : Nat → Int32} {gn host rooms night wheels turned : Int32} {n t I : Nat}
theorem q_may (h : CR wets gc gn host rooms night wheels turned m) (hm : m 0 = nI n) (hn : n ≤ 7) (h19 : m 19 = nI I) (hI : I < 128) (h22 : m 22 = nI t) (ht : t < 2 ^ 31) : ∀ (d i fu : Nat) (x : Int32), i + d = n → d < fu → ∃ v : Int32, f_X8_may_b4 wets gc gn host rooms night wheels fu x (nI i) = some v ∧ f_X9_may_b4 m fu x (nI i) = some v := by
  have hC := h
  obtain ⟨a1, a2, a3, a4, a5, a6, b1, b2, b3, b4, b5, b6, hW, hG⟩ := h
  intro d
  induction d with
  | zero =>
    intro i fu x h1 h2
    obtain ⟨fu, rfl⟩ : ∃ k, fu = k + 1 := ⟨fu - 1, by omega⟩
    refine ⟨x, ?_, ?_⟩
    · rw [f_X8_may_b4, if_pos (by rw [a1, hm]; exact nI_le (by omega) (by omega))]
    · rw [f_X9_may_b4]
      show (if m 0 ≤ nI i then _ else _) = _
      rw [if_pos (by rw [hm]; exact nI_le (by omega) (by omega))]
  | succ d ih =>
    intro i fu x h1 h2
    obtain ⟨fu, rfl⟩ : ∃ k, fu = k + 1 := ⟨fu - 1, by omega⟩
    have e8 : f_X8_may_b4 wets gc gn host rooms night wheels (fu + 1) x (nI i) = f_X8_may_b4 wets gc gn host rooms night wheels fu (if btn (m 19) i = 1 then x else if op m i (m (25 + t % 6)) = 0 then x else x ||| ((1 : Int32) <<< (nI i &&& 31))) (nI (i + 1)) := by
      rw [f_X8_may_b4, if_neg (by rw [a1, hm]; exact nI_ge (by omega) (by omega)), q_isIn hG (a1.trans hm) hm hn (by omega), b_some]
      unfold f_X8_may_b53
      rw [show nI i + (1 : Int32) = nI (i + 1) from na_add i 1]
      rcases btn01 (m 19) i with q | q
      · rw [q, if_pos rfl, if_neg (by decide), q_wetNow hW (a4.trans h22) ht, b_some, q_opensTo hC hm (by omega) hn, b_some]
        split <;> rfl
      · rw [q, if_neg (by decide), if_pos rfl]
    have e9 : f_X9_may_b4 m (fu + 1) x (nI i) = f_X9_may_b4 m fu (if btn (m 19) i = 1 then x else if op m i (m (25 + t % 6)) = 0 then x else x ||| ((1 : Int32) <<< (nI i &&& 31))) (nI (i + 1)) := by
      rw [f_X9_may_b4]
      show (if m 0 ≤ nI i then _ else _) = _
      rw [if_neg (by rw [hm]; exact nI_ge (by omega) (by omega)), q_letsIn9 (by decide) (by decide) h19 hI h22 ht (by omega), b_some]
      unfold f_X9_may_b31
      rw [show nI i + (1 : Int32) = nI (i + 1) from na_add i 1, Int32.or_zero]
      rcases btn01 (m 19) i with q | q
      · rw [q, if_neg no01, if_neg no01]
        split <;> rfl
      · rw [q, if_pos rfl, if_pos rfl, if_pos rfl]
    rw [e8, e9]
    exact ih (i + 1) fu _ (by omega) (by omega)
/-- the hand, so many nights on -/
def hnd (m h : Nat → Int32) (t j : Nat) : Prop := (∀ k : Nat, k < 38 → k ≠ 22 → k ≠ 20 → h k = m k) ∧ h 22 = nI (t + j) ∧ h 20 = (if j = 0 then m 20 else 0)
theorem hnd.next {h : Nat → Int32} {j : Nat} (hh : hnd m h t j) (ht : t + j + 1 < 2 ^ 31) : hnd m (upd (upd h 22 (h 22 + 1)) 20 0) t (j + 1) := by
  obtain ⟨h1, h2, h3⟩ := hh
  refine ⟨fun k k1 k2 k3 => by rw [up_ne _ _ k3, up_ne _ _ k2, h1 k k1 k2 k3], ?_, ?_⟩
  · rw [up_ne _ _ (by decide), up_same, h2]; exact na_add (t + j) 1
  · rw [up_same, if_neg (by omega)]
theorem hnd.lets {h : Nat → Int32} {i j : Nat} (hh : hnd m h t j) (h19 : m 19 = nI I) (hI : I < 128) (ht : t + j < 2 ^ 31) (hi : i < 7) : f_X9_letsIn 38 h (nI i) = some (if btn (m 19) i = 1 then 0 else if m 24 ≤ nI (pcount (m 19)) then 0 else if ps (m 23) (m (25 + (t + j) % 6)) (if j = 0 then m 20 else 0) < lk (m (31 + i)) (m (5 + i)) (m (12 + i)) (nI (t + j)) then 0 else 1) := by
  obtain ⟨h1, h2, h3⟩ := hh
  have e19 : h 19 = m 19 := h1 19 (by decide) (by decide) (by decide)
  rw [q_letsIn9 (by decide) (by decide) (e19.trans h19) hI h2 ht hi]
  have := nat6 (t + j)
  unfold op
  rw [e19, h1 24 (by decide) (by decide) (by decide), h1 23 (by decide) (by decide) (by decide), h1 (25 + (t + j) % 6) (by omega) (by omega) (by omega), h1 (31 + i) (by omega) (by omega) (by omega), h1 (5 + i) (by omega) (by omega) (by omega), h1 (12 + i) (by omega) (by omega) (by omega), h2, h3]
/-- never -/
theorem q_when_no {i : Nat} {r : Nat → Int32} (h19 : m 19 = nI I) (hI : I < 128) (ht : t < 20000) (hi : i < 7) (no : btn (m 19) i = 1 ∨ m 24 ≤ nI (pcount (m 19))) : ∀ (d j fu : Nat) (h : Nat → Int32), j + d = 61 → d < fu → hnd m h t j → ∃ h' : Nat → Int32, f_X9_when_b21 m fu r h (nI i) (nI j) = some (-1, r, h') := by
  intro d
  induction d with
  | zero =>
    intro j fu h h1 h2 hh
    obtain ⟨fu, rfl⟩ : ∃ k, fu = k + 1 := ⟨fu - 1, by omega⟩
    exact ⟨h, by rw [f_X9_when_b21, show j = 61 by omega, if_pos (show (60 : Int32) < nI 61 by decide)]⟩
  | succ d ih =>
    intro j fu h h1 h2 hh
    obtain ⟨fu, rfl⟩ : ∃ k, fu = k + 1 := ⟨fu - 1, by omega⟩
    obtain ⟨h', e⟩ := ih (j + 1) fu _ (by omega) (by omega) (hh.next (by omega))
    refine ⟨h', ?_⟩
    rw [f_X9_when_b21, if_neg (show ¬ (60 : Int32) < nI j from nI_nlt (b := j) (a := 60) (by omega) (by omega)), hh.lets h19 hI (by omega) hi, b_some]
    rcases no with q | q
    · rw [if_pos q, if_pos rfl, show nI j + (1 : Int32) = nI (j + 1) from na_add j 1]; exact e
    · rw [if_pos q, ite_self, if_pos rfl, show nI j + (1 : Int32) = nI (j + 1) from na_add j 1]; exact e
theorem q_when {i : Nat} {r : Nat → Int32} {bads : Int32} (hC : CR wets gc gn host rooms night wheels turned m) (hm : m 0 = nI n) (hn : n ≤ 7) (h19 : m 19 = nI I) (hI : I < 128) (h22 : m 22 = nI t) (ht : t < 20000) (hi : i < n) (hb : btn (m 19) i = 0) (hr : ¬ m 24 ≤ nI (pcount (m 19))) : ∀ (d j fu : Nat) (h : Nat → Int32), j + d = 61 → d < fu → hnd m h t j → ∃ (v : Int32) (h' : Nat → Int32), f_X8_when_b41 wets gc gn host rooms night wheels fu bads (nI i) (nI j) = some (v, bads) ∧ f_X9_when_b21 m fu r h (nI i) (nI j) = some (v, r, h') := by
  obtain ⟨a1, a2, a3, a4, a5, a6, b1, b2, b3, b4, b5, b6, hW, hG⟩ := hC
  intro d
  induction d with
  | zero =>
    intro j fu h h1 h2 hh
    obtain ⟨fu, rfl⟩ : ∃ k, fu = k + 1 := ⟨fu - 1, by omega⟩
    exact ⟨-1, h, by rw [f_X8_when_b41, show j = 61 by omega, if_pos (show (60 : Int32) < nI 61 by decide)], by rw [f_X9_when_b21, show j = 61 by omega, if_pos (show (60 : Int32) < nI 61 by decide)]⟩
  | succ d ih =>
    intro j fu h h1 h2 hh
    obtain ⟨fu, rfl⟩ : ∃ k, fu = k + 1 := ⟨fu - 1, by omega⟩
    obtain ⟨l1, l2, l3, l4, l5, l6, l7⟩ := hG.2.2.2 i (by rw [hm, nI_toInt (by omega)]; omega)
    have h6 := nat6 (t + j)
    have b84 : ∀ (k : Int32 → Int32 → Int32 → Option (Int32 × Int32)) (wh : Int32), f_X8_when_b84 k wets gc gn host rooms night wheels bads (nI i) (nI j) (nI (t + j)) wh (m (25 + (t + j) % 6)) = if ps (m 23) (m (25 + (t + j) % 6)) wh < lk (m (31 + i)) (m (5 + i)) (m (12 + i)) (nI (t + j)) then k bads (nI i) (nI (j + 1)) else some (nI j, bads) := fun k wh => by
      unfold f_X8_when_b84 f_X1_letsPass f_X1_likely
      rw [q_ps, b_some, b_some, gcell1 gc (a1.trans hm) hn hi, b_some, gcell2 gc (a1.trans hm) hn hi, b_some, gcell0 gc (a1.trans hm) hn hi, b_some, q_lk, b_some, b_some, l1, l2, l3, a2, show nI j + (1 : Int32) = nI (j + 1) from na_add j 1]
    have e8 : f_X8_when_b41 wets gc gn host rooms night wheels (fu + 1) bads (nI i) (nI j) = if ps (m 23) (m (25 + (t + j) % 6)) (if j = 0 then m 20 else 0) < lk (m (31 + i)) (m (5 + i)) (m (12 + i)) (nI (t + j)) then f_X8_when_b41 wets gc gn host rooms night wheels fu bads (nI i) (nI (j + 1)) else some (nI j, bads) := by
      rw [f_X8_when_b41, if_neg (show ¬ (60 : Int32) < nI j from nI_nlt (b := j) (a := 60) (by omega) (by omega)), a4, h22, na_add, q_wetOf wets (by omega), b_some, (hW _ h6).1]
      rw [← h22, ← a4, b84, b84, a5]
      by_cases e : j = 0
      · rw [if_pos (show nI j = 0 by rw [e]; rfl), if_pos e]
      · rw [if_neg (show ¬ nI j = 0 from fun q => e ((nI_eq (by omega) (by decide)).mp (show nI j = nI 0 from q))), if_neg e]
    rw [e8]
    have e9 : f_X9_when_b21 m (fu + 1) r h (nI i) (nI j) = if ps (m 23) (m (25 + (t + j) % 6)) (if j = 0 then m 20 else 0) < lk (m (31 + i)) (m (5 + i)) (m (12 + i)) (nI (t + j)) then f_X9_when_b21 m fu r (upd (upd h 22 (h 22 + 1)) 20 0) (nI i) (nI (j + 1)) else some (nI j, r, h) := by
      rw [f_X9_when_b21, if_neg (show ¬ (60 : Int32) < nI j from nI_nlt (b := j) (a := 60) (by omega) (by omega)), hh.lets h19 hI (by omega) (by omega), b_some, hb, if_neg no01, if_neg hr, show nI j + (1 : Int32) = nI (j + 1) from na_add j 1]
      by_cases q : ps (m 23) (m (25 + (t + j) % 6)) (if j = 0 then m 20 else 0) < lk (m (31 + i)) (m (5 + i)) (m (12 + i)) (nI (t + j))
      · rw [if_pos q, if_pos q, if_pos rfl]; rfl
      · rw [if_neg q, if_neg q, if_neg no10]
    rw [e9]
    by_cases q : ps (m 23) (m (25 + (t + j) % 6)) (if j = 0 then m 20 else 0) < lk (m (31 + i)) (m (5 + i)) (m (12 + i)) (nI (t + j))
    · rw [if_pos q, if_pos q]; exact ih (j + 1) fu _ (by omega) (by omega) (hh.next (by omega))
    · rw [if_neg q, if_neg q]; exact ⟨_, _, rfl, rfl⟩
/-- the last word below j of which it is so, else -1 -/
def lastw (g : Nat → Int32) : Nat → Int32
  | 0 => -1
  | j + 1 => if g j = 0 then lastw g j else nI j
theorem q_pen8 {i : Nat} {bads : Int32} (hC : CR wets gc gn host rooms night wheels turned m) (hm : m 0 = nI n) (hn : n ≤ 7) (h22 : m 22 = nI t) (ht : t < 2 ^ 31) (hi : i < n) : ∀ (j fu : Nat), j < 100 → j < fu → f_X8_pen_b42 wets gc gn host rooms night wheels fu bads (nI i) (nI j - 1) = some (lastw (fun w => if ps (m 23) (m (25 + t % 6)) (m 20) < lk (m (31 + i)) (nI w) (m (12 + i)) (m 22) then 0 else 1) j, bads) := by
  obtain ⟨a1, a2, a3, a4, a5, a6, b1, b2, b3, b4, b5, b6, hW, hG⟩ := hC
  obtain ⟨l1, l2, l3, l4, l5, l6, l7⟩ := hG.2.2.2 i (by rw [hm, nI_toInt (by omega)]; omega)
  intro j
  induction j with
  | zero =>
    intro fu h1 h2
    obtain ⟨fu, rfl⟩ : ∃ k, fu = k + 1 := ⟨fu - 1, by omega⟩
    rw [f_X8_pen_b42, if_pos (by decide)]; rfl
  | succ j ih =>
    intro fu h1 h2
    obtain ⟨fu, rfl⟩ : ∃ k, fu = k + 1 := ⟨fu - 1, by omega⟩
    have h := ih fu (by omega) (by omega)
    rw [show nI (j + 1) - (1 : Int32) = nI j from na_sub (a := j + 1) (b := 1) (by omega), f_X8_pen_b42, if_neg (nI_pos (by omega)), gcell2 gc (a1.trans hm) hn hi, b_some]
    unfold f_X1_likely
    rw [gcell0 gc (a1.trans hm) hn hi, b_some, q_lk, b_some, b_some, q_letsNow hW a2 (a4.trans h22) a5 ht, b_some, l1, l3, a4, lastw, show nI j + (-1 : Int32) = nI j - 1 from (Int32.sub_eq_add_neg _ _).symm]
    by_cases q : ps (m 23) (m (25 + t % 6)) (m 20) < lk (m (31 + i)) (nI j) (m (12 + i)) (m 22)
    · rw [if_pos q]
      rw [a4] at h
      rw [h, if_pos q, if_pos rfl]
    · rw [if_neg q, if_neg q, if_neg no10]
theorem q_pen9 {i : Nat} {r : Nat → Int32} (h19 : m 19 = nI I) (hI : I < 128) (h22 : m 22 = nI t) (ht : t < 2 ^ 31) (hi : i < 7) : ∀ (d j fu : Nat) (h : Nat → Int32), j + d = 10 → d < fu → (∀ k : Nat, k < 38 → k ≠ 5 + i → h k = m k) → ∃ h' : Nat → Int32, f_X9_pen_b23 m fu r h (nI i) (lastw (fun w => if btn (m 19) i = 1 then 0 else if m 24 ≤ nI (pcount (m 19)) then 0 else if ps (m 23) (m (25 + t % 6)) (m 20) < lk (m (31 + i)) (nI w) (m (12 + i)) (m 22) then 0 else 1) j) (nI j) = some (lastw (fun w => if btn (m 19) i = 1 then 0 else if m 24 ≤ nI (pcount (m 19)) then 0 else if ps (m 23) (m (25 + t % 6)) (m 20) < lk (m (31 + i)) (nI w) (m (12 + i)) (m 22) then 0 else 1) 10, r, h') := by
  intro d
  induction d with
  | zero =>
    intro j fu h h1 h2 hh
    obtain ⟨fu, rfl⟩ : ∃ k, fu = k + 1 := ⟨fu - 1, by omega⟩
    exact ⟨h, by rw [f_X9_pen_b23, show j = 10 by omega, if_pos (show (10 : Int32) ≤ nI 10 by decide)]⟩
  | succ d ih =>
    intro j fu h h1 h2 hh
    obtain ⟨fu, rfl⟩ : ∃ k, fu = k + 1 := ⟨fu - 1, by omega⟩
    have hh' : ∀ k : Nat, k < 38 → k ≠ 5 + i → upd h (5 + i) (nI j) k = m k := fun k k1 k2 => by rw [up_ne _ _ k2, hh k k1 k2]
    have h5 : upd h (5 + i) (nI j) (5 + i) = nI j := up_same _ _ _
    obtain ⟨h', e⟩ := ih (j + 1) fu (upd h (5 + i) (nI j)) (by omega) (by omega) hh'
    refine ⟨h', ?_⟩
    have := nat6 t
    rw [f_X9_pen_b23, if_neg (show ¬ (10 : Int32) ≤ nI j from nI_ge (b := 10) (by omega) (by decide)), show (5 : Int32) + nI i = nI (5 + i) from na_add 5 i, if_pos (nI_in (by omega) (by decide)), nI_clamp (by omega)]
    generalize upd h (5 + i) (nI j) = h3 at hh' h5 e ⊢
    rw [q_letsIn9 (m := h3) (by decide) (by decide) ((hh' 19 (by decide) (by omega)).trans h19) hI ((hh' 22 (by decide) (by omega)).trans h22) ht hi, b_some]
    unfold op f_X9_pen_b54
    rw [hh' 19 (by decide) (by omega), hh' 24 (by decide) (by omega), hh' 23 (by decide) (by omega), hh' (25 + t % 6) (by omega) (by omega), hh' 20 (by decide) (by omega), hh' (31 + i) (by omega) (by omega), h5, hh' (12 + i) (by omega) (by omega), hh' 22 (by decide) (by omega), show nI j + (1 : Int32) = nI (j + 1) from na_add j 1]
    rw [lastw] at e
    rw [← e]
    exact (apply_ite (fun z => f_X9_pen_b23 m fu r h3 (nI i) z (nI (j + 1))) _ _ _).symm
end QM
theorem q_tenths : ∀ s : Nat, s ≤ 10 → ∃ a b : Int32, (∀ x y : Int32, f_X8_setTenths x y (nI s) = some (a, b)) ∧ ∀ x y : Int64, f_X9_fraction x y (nI s).toInt64 10 = some (a.toInt64, b.toInt64)
  | 0, _ => ⟨0, 1, fun _ _ => rfl, fun _ _ => rfl⟩
  | 1, _ => ⟨1, 10, fun _ _ => rfl, fun _ _ => rfl⟩
  | 2, _ => ⟨1, 5, fun _ _ => rfl, fun _ _ => rfl⟩
  | 3, _ => ⟨3, 10, fun _ _ => rfl, fun _ _ => rfl⟩
  | 4, _ => ⟨2, 5, fun _ _ => rfl, fun _ _ => rfl⟩
  | 5, _ => ⟨1, 2, fun _ _ => rfl, fun _ _ => rfl⟩
  | 6, _ => ⟨3, 5, fun _ _ => rfl, fun _ _ => rfl⟩
  | 7, _ => ⟨7, 10, fun _ _ => rfl, fun _ _ => rfl⟩
  | 8, _ => ⟨4, 5, fun _ _ => rfl, fun _ _ => rfl⟩
  | 9, _ => ⟨9, 10, fun _ _ => rfl, fun _ _ => rfl⟩
  | 10, _ => ⟨1, 1, fun _ _ => rfl, fun _ _ => rfl⟩
  | s + 11, h => by omega
theorem q_pairs0 (m r : Nat → Int32) : f_X0_pairsThatRest 0 = some 2 ∧ f_X9_door_b57 m r 0 = some (2, r) := ⟨rfl, rfl⟩
theorem q_pairs1 (m r : Nat → Int32) : f_X0_pairsThatRest 1 = some 0 ∧ f_X9_door_b57 m r 1 = some (0, r) := ⟨rfl, rfl⟩
