/-! plain rows of numbers -/
theorem p_lt {x y : Int32} : (x < y) ↔ x.toInt < y.toInt := Int32.lt_iff_toInt_lt
theorem p_le {x y : Int32} : (x ≤ y) ↔ x.toInt ≤ y.toInt := Int32.le_iff_toInt_le
theorem p_eq {x y : Int32} : (x = y) ↔ x.toInt = y.toInt := Int32.toInt_inj.symm
theorem p_cmp_lt (x y : Int64) : (lg_cmp x y < 0) ↔ x < y := by
  unfold lg_cmp
  by_cases h1 : x > y
  · rw [if_pos h1]
    have h1' := Int64.lt_iff_toInt_lt.mp h1
    constructor
    · intro h; exact absurd h (by decide)
    · intro h; have h' := Int64.lt_iff_toInt_lt.mp h; omega
  · rw [if_neg h1]
    by_cases h2 : x = y
    · rw [if_pos h2, h2]; constructor
      · intro h; exact absurd h (by decide)
      · intro h; have h' := Int64.lt_iff_toInt_lt.mp h; omega
    · rw [if_neg h2]
      have h3 : x.toInt ≠ y.toInt := fun h => h2 (Int64.toInt_inj.mp h)
      have h4 : ¬ y.toInt < x.toInt := fun h => h1 (Int64.lt_iff_toInt_lt.mpr h)
      constructor
      · intro _; exact Int64.lt_iff_toInt_lt.mpr (by omega)
      · intro _; decide
theorem p_cmp_gt (x y : Int64) : (0 < lg_cmp x y) ↔ y < x := by
  unfold lg_cmp
  by_cases h1 : x > y
  · rw [if_pos h1]; constructor
    · intro _; exact h1
    · intro _; decide
  · rw [if_neg h1]
    by_cases h2 : x = y
    · rw [if_pos h2]; constructor
      · intro h; exact absurd h (by decide)
      · intro h; exact absurd h h1
    · rw [if_neg h2]; constructor
      · intro h; exact absurd h (by decide)
      · intro h; exact absurd h h1
theorem p_ltl {x y : Int32} : (x.toInt64 < y.toInt64) ↔ x < y := by
  rw [Int64.lt_iff_toInt_lt, Int32.toInt_toInt64, Int32.toInt_toInt64, Int32.lt_iff_toInt_lt]
theorem p_in (x lo hi : Int32) : f_X9_in x.toInt64 lo.toInt64 hi.toInt64 = some (if x < lo then 0 else if hi < x then 0 else 1) := by
  unfold f_X9_in
  simp only [p_cmp_lt, p_cmp_gt, p_ltl]
  split
  · rfl
  · split <;> rfl
theorem p_within (x lo hi : Int32) : f_X8_within x lo hi = some (if x < lo then 0 else if hi < x then 0 else 1) := by
  unfold f_X8_within
  split
  · rfl
  · split <;> rfl
theorem p_bool {x : Int32} (h : x = 0 ∨ x = 1) : (if x = 0 ∨ x = 1 then some x else none) = some x := if_pos h
theorem p_01 {p q : Prop} [Decidable p] [Decidable q] : (if p then (0 : Int32) else if q then 0 else 1) = 0 ∨ (if p then (0 : Int32) else if q then 0 else 1) = 1 := by
  split
  · exact Or.inl rfl
  · split
    · exact Or.inl rfl
    · exact Or.inr rfl
theorem p_ok0 {p q : Prop} [Decidable p] [Decidable q] : ((if p then (0 : Int32) else if q then 0 else 1) = 0) ↔ ¬ (¬ p ∧ ¬ q) := by
  by_cases hp : p
  · simp [hp]
  · by_cases hq : q
    · simp [hp, hq]
    · simp [hp, hq]
/-- in a range, as a number of 0 or 1 -/
def ib (x lo hi : Int32) : Int32 := if x < lo then 0 else if hi < x then 0 else 1
theorem ib01 (x lo hi : Int32) : ib x lo hi = 0 ∨ ib x lo hi = 1 := p_01
theorem ib0 {x lo hi : Int32} : ib x lo hi = 0 ↔ ¬ (lo.toInt ≤ x.toInt ∧ x.toInt ≤ hi.toInt) := by
  unfold ib
  rw [p_ok0, p_lt, p_lt]; omega
theorem ibn {x lo hi : Int32} (h : ¬ ib x lo hi = 0) : lo.toInt ≤ x.toInt ∧ x.toInt ≤ hi.toInt := by
  rw [ib0] at h; exact Decidable.not_not.mp h
theorem q_within (x lo hi : Int32) : f_X8_within x lo hi = some (ib x lo hi) := p_within x lo hi
theorem q_in (x lo hi : Int32) : f_X9_in x.toInt64 lo.toInt64 hi.toInt64 = some (ib x lo hi) := p_in x lo hi
theorem q_bool (x lo hi : Int32) : (if ib x lo hi = 0 ∨ ib x lo hi = 1 then some (ib x lo hi) else none) = some (ib x lo hi) := if_pos (ib01 x lo hi)
theorem q_isKind (x : Int32) : f_X8_isKind x = some (ib x 0 5) := by
  unfold f_X8_isKind; rw [q_within]; exact q_bool _ _ _
theorem q_isWord (x : Int32) : f_X8_isWord x = some (ib x 0 9) := by
  unfold f_X8_isWord; rw [q_within]; exact q_bool _ _ _
theorem q_kind9 (x : Int32) : f_X9_isKind x = some (ib x 0 5) := by
  unfold f_X9_isKind; rw [show (0 : Int64) = (0 : Int32).toInt64 from rfl, show (5 : Int64) = (5 : Int32).toInt64 from rfl, q_in]; exact q_bool _ _ _
theorem q_word9 (x : Int32) : f_X9_isWord x = some (ib x 0 9) := by
  unfold f_X9_isWord; rw [show (0 : Int64) = (0 : Int32).toInt64 from rfl, show (9 : Int64) = (9 : Int32).toInt64 from rfl, q_in]; exact q_bool _ _ _
theorem q_wet9 (x : Int32) : f_X9_isWet x = some (ib x 0 4) := by
  unfold f_X9_isWet; rw [show (0 : Int64) = (0 : Int32).toInt64 from rfl, show (4 : Int64) = (4 : Int32).toInt64 from rfl, q_in]; exact q_bool _ _ _
theorem q_there (g x : Int32) : f_X1_isThere g x = some (ib x 0 (g - 1)) := by
  unfold f_X1_isThere; rw [q_within]; exact q_bool _ _ _
theorem q_one9 (all : Nat → Int32) (x : Int32) : f_X9_isOne all x = some (ib x 0 (all 0 - 1)) := by
  unfold f_X9_isOne f_X9_many
  show (f_X9_in x.toInt64 (0 : Int32).toInt64 (Int32.toInt64 (all 0 - 1))).bind _ = _
  rw [q_in]; exact q_bool _ _ _
theorem up_same (f : Nat → Int32) (k : Nat) (x : Int32) : upd f k x k = x := by simp [upd]
theorem up_ne (f : Nat → Int32) {k j : Nat} (x : Int32) (h : j ≠ k) : upd f k x j = f j := by simp [upd, h]
