/-! THE TEXT: tokens, one behind the other -/
def srt (c : Nat) : Nat := if 97 ≤ c ∧ c ≤ 122 then 1 else if 48 ≤ c ∧ c ≤ 57 then 2 else if c = 59 then 3 else 4
theorem bt_sort : ∀ c : Fin 128, f_X4_sort (nI c.val) = some (nI (srt c.val)) := by decide +kernel
theorem bt_small : ∀ c : Fin 128, f_X9_isSmall (nI c.val) = some (bi (srt c.val == 1)) := by decide +kernel
theorem bt_fig : ∀ c : Fin 128, f_X9_isFigure (nI c.val) = some (bi (srt c.val == 2)) := by decide +kernel
theorem bt_semi : ∀ c : Fin 128, decide (nI c.val = (59 : Int32)) = (srt c.val == 3) := by decide +kernel
theorem srt_range (c : Nat) : srt c = 1 ∨ srt c = 2 ∨ srt c = 3 ∨ srt c = 4 := by
  unfold srt
  split
  · exact Or.inl rfl
  · split
    · exact Or.inr (Or.inl rfl)
    · split
      · exact Or.inr (Or.inr (Or.inl rfl))
      · exact Or.inr (Or.inr (Or.inr rfl))
theorem srt_dig {c : Nat} (h : srt c = 2) : 48 ≤ c ∧ c ≤ 57 := by
  unfold srt at h
  by_cases h1 : 97 ≤ c ∧ c ≤ 122
  · rw [if_pos h1] at h; exact absurd h (by decide)
  · rw [if_neg h1] at h
    by_cases h2 : 48 ≤ c ∧ c ≤ 57
    · exact h2
    · rw [if_neg h2] at h
      by_cases h3 : c = 59
      · rw [if_pos h3] at h; exact absurd h (by decide)
      · rw [if_neg h3] at h; exact absurd h (by decide)
def BY (cb mb : Nat → Int32) (B : Nat → Nat) (n : Nat) : Prop := n ≤ 150 ∧ ∀ j : Nat, j < n → cb j = nI (B j) ∧ mb j = nI (B j) ∧ B j ≤ 127
section QTK
variable {cb mb : Nat → Int32} {B : Nat → Nat} {n : Nat}
theorem q_at (h : BY cb mb B n) {j : Nat} (hj : j < n) : f_X4_at cb (nI n) (nI j) = some (nI (B j)) := by
  have h1 := h.1
  unfold f_X4_at
  rw [if_neg (nI_pos (by omega)), if_neg (nI_ge hj (by omega)), if_neg (show ¬ (150 : Int32) ≤ nI j from nI_ge (b := 150) (by omega) (by decide)), if_pos (nI_in (by omega) (by decide)), nI_clamp (by omega), (h.2 j hj).1]
theorem q_atEnd (h : BY cb mb B n) : f_X4_at cb (nI n) (nI n) = some (-1) := by
  have h1 := h.1
  unfold f_X4_at
  rw [if_neg (nI_pos (by omega)), if_pos (nI_le (Nat.le_refl n) (by omega))]
theorem q_sortB (h : BY cb mb B n) {j : Nat} (hj : j < n) : f_X4_sort (nI (B j)) = some (nI (srt (B j))) := bt_sort ⟨B j, by have := (h.2 j hj).2.2; omega⟩
theorem q_smallB (h : BY cb mb B n) {j : Nat} (hj : j < n) : f_X9_isSmall (nI (B j)) = some (bi (srt (B j) == 1)) := bt_small ⟨B j, by have := (h.2 j hj).2.2; omega⟩
theorem q_figB (h : BY cb mb B n) {j : Nat} (hj : j < n) : f_X9_isFigure (nI (B j)) = some (bi (srt (B j) == 2)) := bt_fig ⟨B j, by have := (h.2 j hj).2.2; omega⟩
theorem sk_ex : ∀ (d p : Nat), p + d = n → ∃ a : Nat, p ≤ a ∧ a ≤ n ∧ (∀ j : Nat, p ≤ j → j < a → B j = 32) ∧ (a < n → B a ≠ 32)
  | 0, p, h => ⟨p, by omega, by omega, fun j h1 h2 => by omega, fun h1 => by omega⟩
  | d + 1, p, h => by
    by_cases e : B p = 32
    · obtain ⟨a, a1, a2, a3, a4⟩ := sk_ex d (p + 1) (by omega)
      refine ⟨a, by omega, a2, fun j h1 h2 => ?_, a4⟩
      by_cases q : j = p
      · rw [q]; exact e
      · exact a3 j (by omega) h2
    · exact ⟨p, by omega, by omega, fun j h1 h2 => by omega, fun _ => e⟩
theorem ru_ex (κ : Nat) : ∀ (d p : Nat), p + d = n → ∃ e : Nat, p ≤ e ∧ e ≤ n ∧ (∀ j : Nat, p ≤ j → j < e → srt (B j) = κ) ∧ (e < n → srt (B e) ≠ κ)
  | 0, p, h => ⟨p, by omega, by omega, fun j h1 h2 => by omega, fun h1 => by omega⟩
  | d + 1, p, h => by
    by_cases e : srt (B p) = κ
    · obtain ⟨a, a1, a2, a3, a4⟩ := ru_ex κ d (p + 1) (by omega)
      refine ⟨a, by omega, a2, fun j h1 h2 => ?_, a4⟩
      by_cases q : j = p
      · rw [q]; exact e
      · exact a3 j (by omega) h2
    · exact ⟨p, by omega, by omega, fun j h1 h2 => by omega, fun _ => e⟩
theorem q_skip8 (h : BY cb mb B n) {a : Nat} {s t x : Int32} (ha : a ≤ n) (h32 : a < n → B a ≠ 32) : ∀ (d p fu : Nat), p + d = a → d < fu → (∀ j : Nat, p ≤ j → j < a → B j = 32) → f_X4_advance_b0 cb (nI n) fu (nI p) s t x = f_X4_advance_b37 cb (nI n) (nI a) s t x := by
  have h150 := h.1
  intro d
  induction d with
  | zero =>
    intro p fu h1 h2 h3
    obtain ⟨fu, rfl⟩ : ∃ k, fu = k + 1 := ⟨fu - 1, by omega⟩
    have e : p = a := by omega
    subst e
    rw [f_X4_advance_b0]
    by_cases z : p < n
    · rw [if_neg (nI_ge z (by omega)), q_at h z, b_some, if_neg (fun q => by have h0 := (h.2 p z).2.2; have := (nI_eq (by omega) (by decide)).mp (show nI (B p) = nI 32 from q); exact h32 z this)]
    · rw [if_pos (nI_le (by omega) (by omega))]
  | succ d ih =>
    intro p fu h1 h2 h3
    obtain ⟨fu, rfl⟩ : ∃ k, fu = k + 1 := ⟨fu - 1, by omega⟩
    rw [f_X4_advance_b0, if_neg (nI_ge (by omega) (by omega)), q_at h (by omega), b_some, h3 p (Nat.le_refl p) (by omega), if_pos (show nI 32 = (32 : Int32) from rfl), show nI p + (1 : Int32) = nI (p + 1) from na_add p 1]
    exact ih (p + 1) fu (by omega) (by omega) (fun j h4 h5 => h3 j (by omega) h5)
theorem q_skip9 (h : BY cb mb B n) {a : Nat} {s t x : Int32} (ha : a ≤ n) (h32 : a < n → B a ≠ 32) : ∀ (d p fu : Nat), p + d = a → d < fu → (∀ j : Nat, p ≤ j → j < a → B j = 32) → f_X9_lookAt_b5 mb (nI n) fu (nI p) s t x = f_X9_lookAt_b43 mb (nI n) (nI a) s t x := by
  have h150 := h.1
  intro d
  induction d with
  | zero =>
    intro p fu h1 h2 h3
    obtain ⟨fu, rfl⟩ : ∃ k, fu = k + 1 := ⟨fu - 1, by omega⟩
    have e : p = a := by omega
    subst e
    rw [f_X9_lookAt_b5]
    by_cases z : p < n
    · rw [if_neg (nI_ge z (by omega)), if_pos (nI_in (show p < 150 by omega) (by decide)), nI_clamp (by omega), (h.2 p z).2.1, if_neg (fun q => by have h0 := (h.2 p z).2.2; have := (nI_eq (by omega) (by decide)).mp (show nI (B p) = nI 32 from q); exact h32 z this)]
    · rw [if_pos (nI_le (by omega) (by omega))]
  | succ d ih =>
    intro p fu h1 h2 h3
    obtain ⟨fu, rfl⟩ : ∃ k, fu = k + 1 := ⟨fu - 1, by omega⟩
    rw [f_X9_lookAt_b5, if_neg (nI_ge (by omega) (by omega)), if_pos (nI_in (show p < 150 by omega) (by decide)), nI_clamp (by omega), (h.2 p (by omega)).2.1, h3 p (Nat.le_refl p) (by omega), if_pos (show nI 32 = (32 : Int32) from rfl), show nI p + (1 : Int32) = nI (p + 1) from na_add p 1]
    exact ih (p + 1) fu (by omega) (by omega) (fun j h4 h5 => h3 j (by omega) h5)
theorem q_run8 (h : BY cb mb B n) {e κ : Nat} {s x : Int32} (he : e ≤ n) (hk : κ ≤ 4) (hne : e < n → srt (B e) ≠ κ) : ∀ (d p fu : Nat), p + d = e → d < fu → (∀ j : Nat, p ≤ j → j < e → srt (B j) = κ) → f_X4_advance_b95 cb (nI n) fu (nI p) s (nI κ) x = f_X4_advance_b137 cb (nI n) (nI e) s (nI κ) x := by
  have h150 := h.1
  have sle : ∀ c : Nat, srt c ≤ 4 := fun c => by rcases srt_range c with z | z | z | z <;> omega
  intro d
  induction d with
  | zero =>
    intro p fu h1 h2 h3
    obtain ⟨fu, rfl⟩ : ∃ k, fu = k + 1 := ⟨fu - 1, by omega⟩
    have e' : p = e := by omega
    subst e'
    rw [f_X4_advance_b95]
    by_cases z : p < n
    · have hs := sle (B p)
      rw [if_neg (nI_ge z (by omega)), q_at h z, b_some, q_sortB h z, b_some, if_neg (fun q => by have := (nI_eq (by omega) (by omega)).mp q; exact hne z this)]
    · rw [if_pos (nI_le (by omega) (by omega))]
  | succ d ih =>
    intro p fu h1 h2 h3
    obtain ⟨fu, rfl⟩ : ∃ k, fu = k + 1 := ⟨fu - 1, by omega⟩
    rw [f_X4_advance_b95, if_neg (nI_ge (by omega) (by omega)), q_at h (by omega), b_some, q_sortB h (by omega), b_some, h3 p (Nat.le_refl p) (by omega), if_pos rfl, show nI p + (1 : Int32) = nI (p + 1) from na_add p 1]
    exact ih (p + 1) fu (by omega) (by omega) (fun j h4 h5 => h3 j (by omega) h5)
theorem q_run9 (h : BY cb mb B n) {a e κ : Nat} {x : Int32} (he : e ≤ n) (hk : κ = 1 ∨ κ = 2) (hne : e < n → srt (B e) ≠ κ) : ∀ (d l fu : Nat), a + l + d = e → d + 1 < fu → (∀ j : Nat, a + l ≤ j → j < e → srt (B j) = κ) → f_X9_lookAt_b136 mb (nI n) fu (nI a) (nI l) (nI κ) x (1 : Int32) = f_X9_lookAt_b215 mb (nI n) (nI a) (nI (e - a)) (nI κ) x := by
  have h150 := h.1
  have hkd : ∀ (j : Nat) (X : Int32 → Option (Int32 × Int32 × Int32 × Int32)), j < n → (if nI κ = (1 : Int32) then ((f_X9_isSmall (nI (B j))).bind X) else ((f_X9_isFigure (nI (B j))).bind X)) = X (bi (srt (B j) == κ)) := fun j X hj => by
    rcases hk with rfl | rfl
    · rw [if_pos (show nI 1 = (1 : Int32) from rfl), q_smallB h hj, b_some]
    · rw [if_neg (show ¬ nI 2 = (1 : Int32) by decide), q_figB h hj, b_some]
  intro d
  induction d with
  | zero =>
    intro l fu h1 h2 h3
    obtain ⟨fu, rfl⟩ : ∃ k, fu = k + 2 := ⟨fu - 2, by omega⟩
    rw [f_X9_lookAt_b136, if_neg no10, na_add]
    by_cases z : a + l < n
    · have hb : (srt (B (a + l)) == κ) = false := by
        have := hne (by omega)
        rw [show e = a + l by omega] at this
        exact beq_false_of_ne this
      rw [if_neg (nI_ge z (by omega)), if_pos (nI_in (show a + l < 150 by omega) (by decide)), nI_clamp (by omega), (h.2 (a + l) z).2.1, hkd (a + l) _ z, hb]
      unfold f_X9_lookAt_b193 f_X9_lookAt_b208
      rw [if_pos bi_f, Int32.add_zero, f_X9_lookAt_b136, if_pos bi_f, show e - a = l by omega]
    · rw [if_pos (nI_le (by omega) (by omega)), show e - a = l by omega]
  | succ d ih =>
    intro l fu h1 h2 h3
    obtain ⟨fu, rfl⟩ : ∃ k, fu = k + 1 := ⟨fu - 1, by omega⟩
    have hb : (srt (B (a + l)) == κ) = true := by rw [h3 (a + l) (Nat.le_refl _) (by omega)]; exact beq_self_eq_true κ
    rw [f_X9_lookAt_b136, if_neg no10, na_add, if_neg (nI_ge (by omega) (by omega)), if_pos (nI_in (show a + l < 150 by omega) (by decide)), nI_clamp (by omega), (h.2 (a + l) (by omega)).2.1, hkd (a + l) _ (by omega), hb]
    unfold f_X9_lookAt_b193 f_X9_lookAt_b208
    rw [if_neg bi_t, show nI l + (1 : Int32) = nI (l + 1) from na_add l 1]
    exact ih (l + 1) fu (by omega) (by omega) (fun j h4 h5 => h3 j (by omega) h5)
/-- a number's worth -/
def vlu (B : Nat → Nat) (a l : Nat) : Nat := if l = 1 then B a - 48 else 10 * (B a - 48) + (B (a + 1) - 48)
theorem vlu_le {a l : Nat} (h1 : srt (B a) = 2) (h2 : 1 < l → srt (B (a + 1)) = 2) (hl : 0 < l) : vlu B a l ≤ 99 := by
  have d1 := srt_dig h1
  unfold vlu
  by_cases e : l = 1
  · rw [if_pos e]; omega
  · have d2 := srt_dig (h2 (by omega))
    rw [if_neg e]; omega
theorem q_val9 (h : BY cb mb B n) {a l : Nat} (hl : 0 < l) (hal : a + l ≤ n) (hd : ∀ j : Nat, a ≤ j → j < a + l → srt (B j) = 2) : f_X9_lookAt_b215 mb (nI n) (nI a) (nI l) (nI 2) 0 = some (nI a, nI l, nI (if l ≤ 2 then 2 else 4), nI (vlu B a l)) := by
  have h150 := h.1
  have d1 := srt_dig (hd a (Nat.le_refl a) (by omega))
  have hend : ∀ v : Int32, f_X9_lookAt_b274 mb (nI n) (nI a) (nI l) (nI 2) v = some (nI a, nI l, nI (if l ≤ 2 then 2 else 4), v) := fun v => by
    unfold f_X9_lookAt_b274 f_X9_lookAt_b295 f_X9_lookAt_b299
    rw [if_pos (show nI 2 = (2 : Int32) from rfl)]
    by_cases z : l ≤ 2
    · rw [if_pos (show nI l ≤ (2 : Int32) from nI_le (b := 2) z (by decide)), if_pos z]
    · rw [if_neg (show ¬ nI l ≤ (2 : Int32) from nI_ge (a := 2) (by omega) (by omega)), if_neg z] <;> rfl
  unfold f_X9_lookAt_b215
  rw [show s_fuel = 5997 + 1 + 1 + 1 from rfl, f_X9_lookAt_b218, if_neg (show ¬ nI l ≤ (0 : Int32) from nI_ge (a := 0) hl (by omega)), if_neg (by decide), if_pos (show nI 2 = (2 : Int32) from rfl), Int32.add_zero, if_pos (nI_in (show a < 150 by omega) (by decide)), nI_clamp (by omega), (h.2 a (by omega)).2.1]
  rw [show ((10 : Int32) * 0 + nI (B a)) - (48 : Int32) = nI (B a - 48) by
    rw [show (10 : Int32) * 0 = nI 0 from rfl, na_add, Nat.zero_add]; exact na_sub (a := B a) (b := 48) (by omega)]
  rw [f_X9_lookAt_b218, show (0 : Int32) + 1 = nI 1 from rfl]
  by_cases e : l = 1
  · rw [if_pos (show nI l ≤ nI 1 by rw [e]; exact nI_le (Nat.le_refl 1) (by decide)), hend]
    unfold vlu; rw [if_pos e]
  · have d2 := srt_dig (hd (a + 1) (by omega) (by omega))
    rw [if_neg (nI_ge (show 1 < l by omega) (by omega)), if_neg (show ¬ (2 : Int32) ≤ nI 1 by decide), if_pos (show nI 2 = (2 : Int32) from rfl), na_add, if_pos (nI_in (show a + 1 < 150 by omega) (by decide)), nI_clamp (by omega), (h.2 (a + 1) (by omega)).2.1]
    rw [show ((10 : Int32) * nI (B a - 48) + nI (B (a + 1))) - (48 : Int32) = nI (10 * (B a - 48) + (B (a + 1) - 48)) by
      rw [show (10 : Int32) * nI (B a - 48) = nI (10 * (B a - 48)) from na_mul 10 _, na_add]
      rw [show nI (10 * (B a - 48) + B (a + 1)) - (48 : Int32) = nI (10 * (B a - 48) + B (a + 1) - 48) from na_sub (a := 10 * (B a - 48) + B (a + 1)) (b := 48) (by omega)]
      exact congrArg nI (by omega)]
    rw [f_X9_lookAt_b218, show nI 1 + (1 : Int32) = nI 2 from rfl]
    have fin : (if nI l ≤ nI 2 then f_X9_lookAt_b274 mb (nI n) (nI a) (nI l) (nI 2) (nI (vlu B a l)) else (if (2 : Int32) ≤ nI 2 then f_X9_lookAt_b274 mb (nI n) (nI a) (nI l) (nI 2) (nI (vlu B a l)) else none)) = some (nI a, nI l, nI (if l ≤ 2 then 2 else 4), nI (vlu B a l)) := by
      by_cases z : l ≤ 2
      · rw [if_pos (nI_le z (by decide)), hend]
      · rw [if_neg (nI_ge (by omega) (by omega)), if_pos (show (2 : Int32) ≤ nI 2 by decide), hend]
    have hv : vlu B a l = 10 * (B a - 48) + (B (a + 1) - 48) := if_neg e
    rw [← hv]
    by_cases z : l ≤ 2
    · rw [if_pos (nI_le z (by decide)), hend]
    · rw [if_neg (nI_ge (by omega) (by omega)), if_pos (show (2 : Int32) ≤ nI 2 by decide), hend]
theorem q_val8 (h : BY cb mb B n) {a l : Nat} {x : Int32} (hl : 0 < l) (hal : a + l ≤ n) (hd : ∀ j : Nat, a ≤ j → j < a + l → srt (B j) = 2) : ∃ y : Int32, f_X4_advance_b137 cb (nI n) (nI (a + l)) (nI a) (nI 2) x = some (nI (a + l), nI a, nI (if l ≤ 2 then 2 else 4), y) ∧ (l ≤ 2 → y = nI (vlu B a l)) := by
  have h150 := h.1
  have d1 := srt_dig (hd a (Nat.le_refl a) (by omega))
  have hsub : nI (a + l) - nI a = nI l := by rw [na_sub (by omega), show a + l - a = l by omega]
  have hB : nI (B a) - (48 : Int32) = nI (B a - 48) := na_sub (a := B a) (b := 48) (by omega)
  by_cases e : l = 2
  · subst e
    have d2 := srt_dig (hd (a + 1) (by omega) (by omega))
    refine ⟨nI (vlu B a 2), ?_, fun _ => rfl⟩
    unfold f_X4_advance_b137 f_X4_takeNumber f_X4_takeNumber_b20
    rw [if_pos (show nI 2 = (2 : Int32) from rfl), hsub, if_pos (show nI 2 ≤ (2 : Int32) by decide), q_at h (by omega), b_some, if_pos (show nI 2 = (2 : Int32) from rfl), show nI a + (1 : Int32) = nI (a + 1) from na_add a 1, q_at h (by omega), b_some, hB]
    rw [show ((10 : Int32) * nI (B a - 48) + nI (B (a + 1))) - (48 : Int32) = nI (vlu B a 2) by
      rw [show (10 : Int32) * nI (B a - 48) = nI (10 * (B a - 48)) from na_mul 10 _, na_add]
      rw [show nI (10 * (B a - 48) + B (a + 1)) - (48 : Int32) = nI (10 * (B a - 48) + B (a + 1) - 48) from na_sub (a := 10 * (B a - 48) + B (a + 1)) (b := 48) (by omega)]
      unfold vlu
      rw [if_neg (by decide)]
      exact congrArg nI (by omega)]
    rfl
  · refine ⟨nI (B a - 48), ?_, fun z => ?_⟩
    · unfold f_X4_advance_b137 f_X4_takeNumber f_X4_takeNumber_b20
      rw [if_pos (show nI 2 = (2 : Int32) from rfl), hsub, q_at h (by omega), b_some, b_some, if_neg (show ¬ nI l = (2 : Int32) from fun q => e ((nI_eq (by omega) (by decide)).mp (show nI l = nI 2 from q))), hB, if_neg (show ¬ nI l = (2 : Int32) from fun q => e ((nI_eq (by omega) (by decide)).mp (show nI l = nI 2 from q)))]
      by_cases z : l ≤ 2
      · rw [if_pos (show nI l ≤ (2 : Int32) from nI_le (b := 2) z (by decide)), if_pos z] <;> rfl
      · rw [if_neg (show ¬ nI l ≤ (2 : Int32) from nI_ge (a := 2) (by omega) (by omega)), if_neg z] <;> rfl
    · unfold vlu; rw [if_pos (by omega)]
/-- the token behind a place -/
def TK (cb mb : Nat → Int32) (B : Nat → Nat) (n p a l k v : Nat) : Prop := (∀ x1 x2 x3 x4 : Int32, f_X9_lookAt mb (nI n) x1 x2 x3 x4 (nI p) = some (nI a, nI l, nI k, nI v)) ∧ (∀ x2 x3 x4 : Int32, ∃ y : Int32, f_X4_advance cb (nI n) (nI p) x2 x3 x4 = some (nI (a + l), nI a, nI k, y) ∧ (k = 2 → y = nI v)) ∧ p ≤ a ∧ a + l ≤ n ∧ k ≤ 4 ∧ (k = 0 ↔ l = 0) ∧ v ≤ 99
theorem tk_ex (h : BY cb mb B n) {p : Nat} (hp : p ≤ n) : ∃ a l k v : Nat, TK cb mb B n p a l k v := by
  have h150 := h.1
  obtain ⟨a, a1, a2, a3, a4⟩ := sk_ex (B := B) (n := n) (n - p) p (by omega)
  have l8 : ∀ x2 x3 x4 : Int32, f_X4_advance cb (nI n) (nI p) x2 x3 x4 = f_X4_advance_b37 cb (nI n) (nI a) x2 x3 x4 := fun x2 x3 x4 => q_skip8 h a2 a4 (a - p) p s_fuel (by omega) (by unfold s_fuel; omega) a3
  have l9 : ∀ x1 x2 x3 x4 : Int32, f_X9_lookAt mb (nI n) x1 x2 x3 x4 (nI p) = f_X9_lookAt_b43 mb (nI n) (nI a) x2 x3 x4 := fun x1 x2 x3 x4 => q_skip9 h a2 a4 (a - p) p s_fuel (by omega) (by unfold s_fuel; omega) a3
  by_cases ha : a = n
  · refine ⟨a, 0, 0, 0, fun x1 x2 x3 x4 => ?_, fun x2 x3 x4 => ⟨x4, ?_, fun q => absurd q (by decide)⟩, a1, a2, by omega, Iff.rfl, by omega⟩
    · rw [l9]; unfold f_X9_lookAt_b43; rw [ha, if_pos rfl] <;> rfl
    · rw [l8]; unfold f_X4_advance_b37; rw [ha, q_atEnd h, b_some, show f_X4_sort (-1) = some 0 from rfl, b_some, if_pos rfl] <;> rfl
  have hn : a < n := by omega
  have hne : ¬ nI a = nI n := fun q => ha ((nI_eq (by omega) (by omega)).mp q)
  have b43 : ∀ x2 x3 x4 : Int32, f_X9_lookAt_b43 mb (nI n) (nI a) x2 x3 x4 = f_X9_lookAt_b114 mb (nI n) (nI a) 0 0 0 (nI (srt (B a))) := fun x2 x3 x4 => by
    have hs := bt_semi ⟨B a, by have := (h.2 a hn).2.2; omega⟩
    dsimp only at hs
    unfold f_X9_lookAt_b43
    rw [if_neg hne, if_pos (nI_in (show a < 150 by omega) (by decide)), nI_clamp (by omega), (h.2 a hn).2.1, q_smallB h hn, b_some, q_figB h hn, b_some]
    rcases srt_range (B a) with z | z | z | z
    · rw [z, if_neg (show ¬ bi (1 == 1) = 0 by decide)]
      exact congrArg (f_X9_lookAt_b114 mb (nI n) (nI a) 0 0 0) (show (1 : Int32) = nI 1 from rfl)
    · rw [z, if_pos (show bi (2 == 1) = 0 from rfl), if_neg (show ¬ bi (2 == 2) = 0 by decide)]
      exact congrArg (f_X9_lookAt_b114 mb (nI n) (nI a) 0 0 0) (show (2 : Int32) = nI 2 from rfl)
    · rw [z] at hs ⊢
      rw [if_pos (show bi (3 == 1) = 0 from rfl), if_pos (show bi (3 == 2) = 0 from rfl), if_pos (of_decide_eq_true hs)]
      exact congrArg (f_X9_lookAt_b114 mb (nI n) (nI a) 0 0 0) (show (3 : Int32) = nI 3 from rfl)
    · rw [z] at hs ⊢
      rw [if_pos (show bi (4 == 1) = 0 from rfl), if_pos (show bi (4 == 2) = 0 from rfl), if_neg (of_decide_eq_false hs)]
      exact congrArg (f_X9_lookAt_b114 mb (nI n) (nI a) 0 0 0) (show (4 : Int32) = nI 4 from rfl)
  have b37 : ∀ x2 x3 x4 : Int32, f_X4_advance_b37 cb (nI n) (nI a) x2 x3 x4 = if srt (B a) = 1 then f_X4_advance_b95 cb (nI n) s_fuel (nI (a + 1)) (nI a) (nI 1) x4 else if srt (B a) = 2 then f_X4_advance_b95 cb (nI n) s_fuel (nI (a + 1)) (nI a) (nI 2) x4 else some (nI (a + 1), nI a, nI (srt (B a)), x4) := fun x2 x3 x4 => by
    unfold f_X4_advance_b37
    rw [q_at h hn, b_some, q_sortB h hn, b_some, show nI a + (1 : Int32) = nI (a + 1) from na_add a 1]
    rcases srt_range (B a) with z | z | z | z
    · rw [z, if_neg (show ¬ nI 1 = (0 : Int32) by decide), if_pos (show nI 1 = (1 : Int32) from rfl), if_pos rfl]
    · rw [z, if_neg (show ¬ nI 2 = (0 : Int32) by decide), if_neg (show ¬ nI 2 = (1 : Int32) by decide), if_pos (show nI 2 = (2 : Int32) from rfl), if_neg (show ¬ (2 : Nat) = 1 by decide), if_pos rfl]
    · rw [z, if_neg (show ¬ nI 3 = (0 : Int32) by decide), if_neg (show ¬ nI 3 = (1 : Int32) by decide), if_neg (show ¬ nI 3 = (2 : Int32) by decide), if_neg (show ¬ (3 : Nat) = 1 by decide), if_neg (show ¬ (3 : Nat) = 2 by decide)]
    · rw [z, if_neg (show ¬ nI 4 = (0 : Int32) by decide), if_neg (show ¬ nI 4 = (1 : Int32) by decide), if_neg (show ¬ nI 4 = (2 : Int32) by decide), if_neg (show ¬ (4 : Nat) = 1 by decide), if_neg (show ¬ (4 : Nat) = 2 by decide)]
  have b114s : ∀ κ : Nat, ¬ (3 : Int32) ≤ nI κ → f_X9_lookAt_b114 mb (nI n) (nI a) 0 0 0 (nI κ) = f_X9_lookAt_b136 mb (nI n) s_fuel (nI a) (nI 1) (nI κ) 0 (1 : Int32) := fun κ hκ => by
    unfold f_X9_lookAt_b114 f_X9_lookAt_b135
    rw [if_neg hκ, show (1 : Int32) = nI 1 from rfl]
  have b114t : ∀ κ : Nat, (3 : Int32) ≤ nI κ → ¬ nI κ = (2 : Int32) → f_X9_lookAt_b114 mb (nI n) (nI a) 0 0 0 (nI κ) = some (nI a, nI 1, nI κ, nI 0) := fun κ hκ h2 => by
    unfold f_X9_lookAt_b114 f_X9_lookAt_b135
    rw [if_pos hκ, show s_fuel = 5999 + 1 from rfl, f_X9_lookAt_b136, if_pos rfl]
    unfold f_X9_lookAt_b215
    rw [show s_fuel = 5999 + 1 from rfl, f_X9_lookAt_b218, if_neg (show ¬ (1 : Int32) ≤ 0 by decide), if_neg (show ¬ (2 : Int32) ≤ 0 by decide), if_neg h2]
    unfold f_X9_lookAt_b274 f_X9_lookAt_b295 f_X9_lookAt_b299
    rw [if_neg h2, show (1 : Int32) = nI 1 from rfl, show (0 : Int32) = nI 0 from rfl]
  rcases srt_range (B a) with z | z | z | z
  · obtain ⟨e, e1, e2, e3, e4⟩ := ru_ex (B := B) (n := n) 1 (n - (a + 1)) (a + 1) (by omega)
    refine ⟨a, e - a, 1, 0, fun x1 x2 x3 x4 => ?_, fun x2 x3 x4 => ⟨x4, ?_, fun q => absurd q (by decide)⟩, a1, by omega, by omega, ⟨fun q => absurd q (by decide), fun q => by omega⟩, by omega⟩
    · rw [l9, b43, z]
      have hr := q_run9 h (a := a) (e := e) (κ := 1) (x := 0) e2 (Or.inl rfl) e4 (e - (a + 1)) 1 s_fuel (by omega) (by unfold s_fuel; omega) (fun j h1 h2 => e3 j (by omega) h2)
      rw [b114s 1 (by decide), hr]
      unfold f_X9_lookAt_b215
      rw [show s_fuel = 5999 + 1 from rfl, f_X9_lookAt_b218, if_neg (show ¬ nI (e - a) ≤ (0 : Int32) from nI_ge (a := 0) (by omega) (by omega)), if_neg (show ¬ (2 : Int32) ≤ 0 by decide), if_neg (show ¬ nI 1 = (2 : Int32) by decide)]
      unfold f_X9_lookAt_b274 f_X9_lookAt_b295 f_X9_lookAt_b299
      rw [if_neg (show ¬ nI 1 = (2 : Int32) by decide), show (0 : Int32) = nI 0 from rfl]
    · rw [l8, b37, if_pos z, q_run8 h e2 (by omega) e4 (e - (a + 1)) (a + 1) s_fuel (by omega) (by unfold s_fuel; omega) e3, show a + (e - a) = e by omega]
      unfold f_X4_advance_b137
      rw [if_neg (show ¬ nI 1 = (2 : Int32) by decide)]
  · obtain ⟨e, e1, e2, e3, e4⟩ := ru_ex (B := B) (n := n) 2 (n - (a + 1)) (a + 1) (by omega)
    have hd : ∀ j : Nat, a ≤ j → j < a + (e - a) → srt (B j) = 2 := fun j h1 h2 => by
      by_cases q : j = a
      · rw [q]; exact z
      · exact e3 j (by omega) (by omega)
    refine ⟨a, e - a, if e - a ≤ 2 then 2 else 4, vlu B a (e - a), fun x1 x2 x3 x4 => ?_, fun x2 x3 x4 => ?_, a1, by omega, by split <;> omega, ⟨fun q => by split at q <;> omega, fun q => by omega⟩, vlu_le z (fun q => hd (a + 1) (by omega) (by omega)) (by omega)⟩
    · rw [l9, b43, z]
      have hr := q_run9 h (a := a) (e := e) (κ := 2) (x := 0) e2 (Or.inr rfl) e4 (e - (a + 1)) 1 s_fuel (by omega) (by unfold s_fuel; omega) (fun j h1 h2 => e3 j (by omega) h2)
      rw [b114s 2 (by decide), hr]
      exact q_val9 h (by omega) (by omega) hd
    · obtain ⟨y, y1, y2⟩ := q_val8 h (x := x4) (show 0 < e - a by omega) (by omega) hd
      refine ⟨y, ?_, fun q => y2 (by split at q <;> omega)⟩
      rw [l8, b37, if_neg (by omega), if_pos z, q_run8 h e2 (by omega) e4 (e - (a + 1)) (a + 1) s_fuel (by omega) (by unfold s_fuel; omega) e3]
      rw [show a + (e - a) = e by omega] at y1 ⊢
      exact y1
  · refine ⟨a, 1, 3, 0, fun x1 x2 x3 x4 => ?_, fun x2 x3 x4 => ⟨x4, ?_, fun q => absurd q (by decide)⟩, a1, by omega, by omega, ⟨fun q => absurd q (by decide), fun q => absurd q (by decide)⟩, by omega⟩
    · rw [l9, b43, z, b114t 3 (by decide) (by decide)]
    · rw [l8, b37, if_neg (by omega), if_neg (by omega), z]
  · refine ⟨a, 1, 4, 0, fun x1 x2 x3 x4 => ?_, fun x2 x3 x4 => ⟨x4, ?_, fun q => absurd q (by decide)⟩, a1, by omega, by omega, ⟨fun q => absurd q (by decide), fun q => absurd q (by decide)⟩, by omega⟩
    · rw [l9, b43, z, b114t 4 (by decide) (by decide)]
    · rw [l8, b37, if_neg (by omega), if_neg (by omega), z]
end QTK
