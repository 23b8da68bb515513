/-! ORDER: of all orders the first in which most are let in -/
def er (w : Nat → Bool) (x : Nat) : Nat → Bool := fun i => w i && !decide (i = x)
def mx (w : Nat → Bool) (g : Nat → Nat) : Nat → Nat
  | 0 => 0
  | i + 1 => if w i then (if mx w g i < g i then g i else mx w g i) else mx w g i
def fct : Nat → Nat
  | 0 => 1
  | k + 1 => (k + 1) * fct k
def Mx (q : Nat → Nat → Nat) : Nat → (Nat → Bool) → Nat → Nat
  | 0, _, _ => 0
  | k + 1, w, c => mx w (fun i => q i c + Mx q k (er w i) (c + 1)) 7
def scr (q : Nat → Nat → Nat) : Nat → Nat → (Nat → Nat) → Nat
  | 0, _, _ => 0
  | k + 1, c, o => q (o 0) c + scr q k (c + 1) (fun a => o (a + 1))
def Ord : Nat → (Nat → Bool) → Nat → (Nat → Nat) → Prop
  | 0, _, _, _ => True
  | k + 1, w, code, o => o 0 < 7 ∧ w (o 0) = true ∧ cntb w (o 0) = code / fct k ∧ Ord k (er w (o 0)) (code % fct k) (fun a => o (a + 1))
def Grd (q : Nat → Nat → Nat) : Nat → (Nat → Bool) → Nat → Nat → (Nat → Nat) → Prop
  | 0, _, _, _, _ => True
  | k + 1, w, c, need, o => o 0 < 7 ∧ w (o 0) = true ∧ need ≤ q (o 0) c + Mx q k (er w (o 0)) (c + 1) ∧ (∀ i : Nat, i < o 0 → w i = true → ¬ need ≤ q i c + Mx q k (er w i) (c + 1)) ∧ Grd q k (er w (o 0)) (c + 1) (need - q (o 0) c) (fun a => o (a + 1))
theorem fct_pos : ∀ k : Nat, 0 < fct k
  | 0 => by rw [fct]; omega
  | k + 1 => by rw [fct]; exact Nat.mul_pos (by omega) (fct_pos k)
theorem dv {a b g : Nat} (h : g < b) : (a * b + g) / b = a ∧ (a * b + g) % b = g := by
  rw [Nat.mul_comm a b]
  exact ⟨by rw [Nat.mul_add_div (by omega), Nat.div_eq_of_lt h, Nat.add_zero], by rw [Nat.mul_add_mod, Nat.mod_eq_of_lt h]⟩
theorem mx_ge {w : Nat → Bool} {g : Nat → Nat} {i : Nat} (hw : w i = true) : ∀ n : Nat, i < n → g i ≤ mx w g n
  | 0, h => by omega
  | n + 1, h => by
    rw [mx]
    by_cases e : i = n
    · subst e; rw [if_pos hw]; split <;> omega
    · have := mx_ge (g := g) hw n (by omega)
      split
      · split <;> omega
      · exact this
theorem mx_or (w : Nat → Bool) (g : Nat → Nat) : ∀ n : Nat, mx w g n = 0 ∨ ∃ x : Nat, x < n ∧ w x = true ∧ mx w g n = g x
  | 0 => Or.inl rfl
  | n + 1 => by
    rw [mx]
    by_cases hw : w n = true
    · rw [if_pos hw]
      by_cases z : mx w g n < g n
      · rw [if_pos z]; exact Or.inr ⟨n, by omega, hw, rfl⟩
      · rw [if_neg z]
        rcases mx_or w g n with h | ⟨x, h1, h2, h3⟩
        · exact Or.inl h
        · exact Or.inr ⟨x, by omega, h2, h3⟩
    · rw [if_neg hw]
      rcases mx_or w g n with h | ⟨x, h1, h2, h3⟩
      · exact Or.inl h
      · exact Or.inr ⟨x, by omega, h2, h3⟩
theorem mx_ex {w : Nat → Bool} {g : Nat → Nat} {n i : Nat} (hi : i < n) (hw : w i = true) : ∃ x : Nat, x < n ∧ w x = true ∧ mx w g n = g x := by
  rcases mx_or w g n with h | h
  · have := mx_ge (g := g) hw n hi
    exact ⟨i, hi, hw, by omega⟩
  · exact h
theorem mx_none {w : Nat → Bool} {g : Nat → Nat} : ∀ n : Nat, (∀ i, i < n → w i = false) → mx w g n = 0
  | 0, _ => rfl
  | n + 1, h => by
    rw [mx, if_neg (by rw [h n (by omega)]; decide)]
    exact mx_none n (fun i hi => h i (by omega))
theorem mx_congr {w : Nat → Bool} {g g' : Nat → Nat} : ∀ n : Nat, (∀ i, i < n → w i = true → g i = g' i) → mx w g n = mx w g' n
  | 0, _ => rfl
  | n + 1, h => by
    rw [mx, mx, mx_congr n (fun i hi => h i (by omega))]
    by_cases hw : w n = true
    · rw [if_pos hw, if_pos hw, h n (by omega) hw]
    · rw [if_neg hw, if_neg hw]
theorem mx_bound {w : Nat → Bool} {g : Nat → Nat} {b : Nat} (n : Nat) (h : ∀ i, i < n → w i = true → g i ≤ b) : mx w g n ≤ b := by
  rcases mx_or w g n with e | ⟨x, h1, h2, h3⟩
  · omega
  · rw [h3]; exact h x h1 h2
theorem cntb_lt {w : Nat → Bool} {x n : Nat} (hw : w x = true) (h : x < n) : cntb w x < cntb w n := by
  have := cntb_le2 (g := w) (v := x + 1) n (by omega)
  rw [cntb_t hw] at this; omega
theorem cntb_inj {w : Nat → Bool} {x y : Nat} (hx : w x = true) (hy : w y = true) (h : cntb w x = cntb w y) : x = y := by
  rcases Nat.lt_trichotomy x y with a | a | a
  · have := cntb_lt hx a; omega
  · exact a
  · have := cntb_lt hy a; omega
theorem cntb_no {w : Nat → Bool} : ∀ n : Nat, (∀ i, i < n → w i = false) → cntb w n = 0
  | 0, _ => rfl
  | n + 1, h => by rw [cntb_f (h n (by omega))]; exact cntb_no n (fun i hi => h i (by omega))
theorem cntb_zero {w : Nat → Bool} {n i : Nat} (h : cntb w n = 0) (hi : i < n) : w i = false := by
  cases e : w i with
  | false => rfl
  | true => have := cntb_lt e hi; omega
theorem cntb_some {w : Nat → Bool} : ∀ n : Nat, 0 < cntb w n → ∃ i : Nat, i < n ∧ w i = true
  | 0, h => by rw [cntb] at h; omega
  | n + 1, h => by
    cases e : w n with
    | true => exact ⟨n, by omega, e⟩
    | false =>
      rw [cntb_f e] at h
      obtain ⟨i, h1, h2⟩ := cntb_some n h
      exact ⟨i, by omega, h2⟩
theorem cntb_er {w : Nat → Bool} {x : Nat} (hw : w x = true) : ∀ n : Nat, cntb (er w x) n + (if x < n then 1 else 0) = cntb w n
  | 0 => by rw [if_neg (by omega)] <;> rfl
  | n + 1 => by
    have ih := cntb_er hw n
    rw [cntb, cntb]
    by_cases e : n = x
    · subst e
      have h : er w n n = false := by unfold er; rw [decide_eq_true rfl]; exact Bool.and_false _
      rw [if_neg (by omega)] at ih
      rw [h, hw, if_neg (by decide), if_pos rfl, if_pos (by omega)]; omega
    · have h : er w x n = w n := by unfold er; rw [decide_eq_false e]; exact Bool.and_true _
      rw [h]
      by_cases l : x < n
      · rw [if_pos l] at ih; rw [if_pos (show x < n + 1 by omega)]; omega
      · rw [if_neg l] at ih; rw [if_neg (show ¬ x < n + 1 by omega)]; omega
theorem er_cnt {w : Nat → Bool} {x k : Nat} (hw : w x = true) (hx : x < 7) (hk : cntb w 7 = k + 1) : cntb (er w x) 7 = k := by
  have := cntb_er hw 7
  rw [if_pos hx] at this; omega
theorem least_ex {P : Nat → Prop} (n : Nat) : P n → ∃ x : Nat, x ≤ n ∧ P x ∧ ∀ i : Nat, i < x → ¬ P i := by
  induction n using Nat.strongRecOn with
  | ind n ih =>
    intro h
    by_cases e : ∃ i : Nat, i < n ∧ P i
    · obtain ⟨i, h1, h2⟩ := e
      obtain ⟨x, a, b, c⟩ := ih i h1 h2
      exact ⟨x, by omega, b, c⟩
    · exact ⟨n, Nat.le_refl n, h, fun i hi hp => e ⟨i, hi, hp⟩⟩
theorem Mx_le {q : Nat → Nat → Nat} (hq : ∀ i c, q i c ≤ 1) : ∀ (k : Nat) (w : Nat → Bool) (c : Nat), Mx q k w c ≤ k
  | 0, _, _ => Nat.le_refl 0
  | k + 1, w, c => by
    rw [Mx]
    refine mx_bound 7 fun i _ _ => ?_
    have h1 := hq i c
    have h2 := Mx_le hq k (er w i) (c + 1)
    omega
theorem scr_congr {q : Nat → Nat → Nat} : ∀ (k c : Nat) (o o' : Nat → Nat), (∀ a, a < k → o a = o' a) → scr q k c o = scr q k c o'
  | 0, _, _, _, _ => rfl
  | k + 1, c, o, o', h => by
    rw [scr, scr, h 0 (by omega), scr_congr k (c + 1) (fun a => o (a + 1)) (fun a => o' (a + 1)) (fun a ha => h (a + 1) (by omega))]
theorem Ord_ub {q : Nat → Nat → Nat} : ∀ (k : Nat) (w : Nat → Bool) (c code : Nat) (o : Nat → Nat), Ord k w code o → scr q k c o ≤ Mx q k w c
  | 0, _, _, _, _, _ => Nat.le_refl 0
  | k + 1, w, c, code, o, h => by
    obtain ⟨h1, h2, -, h4⟩ := h
    have h5 := Ord_ub (q := q) k (er w (o 0)) (c + 1) _ _ h4
    have h6 : q (o 0) c + Mx q k (er w (o 0)) (c + 1) ≤ mx w (fun i => q i c + Mx q k (er w i) (c + 1)) 7 := mx_ge (g := fun i => q i c + Mx q k (er w i) (c + 1)) h2 7 h1
    rw [scr, Mx]
    omega
theorem Ord_one : ∀ (k : Nat) (w : Nat → Bool) (code : Nat) (o o' : Nat → Nat), Ord k w code o → Ord k w code o' → ∀ a, a < k → o a = o' a
  | 0, _, _, _, _, _, _, a, ha => by omega
  | k + 1, w, code, o, o', h, h', a, ha => by
    obtain ⟨h1, h2, h3, h4⟩ := h
    obtain ⟨i1, i2, i3, i4⟩ := h'
    have e : o' 0 = o 0 := cntb_inj i2 h2 (by rw [i3, h3])
    rw [e] at i4
    cases a with
    | zero => exact e.symm
    | succ a => exact Ord_one k (er w (o 0)) _ _ _ h4 i4 a (by omega)
def pre (x : Nat) (o : Nat → Nat) : Nat → Nat
  | 0 => x
  | a + 1 => o a
theorem greedy {q : Nat → Nat → Nat} : ∀ (k : Nat) (w : Nat → Bool) (c need : Nat), cntb w 7 = k → need ≤ Mx q k w c → ∃ (g : Nat) (o : Nat → Nat), g < fct k ∧ Grd q k w c need o ∧ Ord k w g o ∧ need ≤ scr q k c o ∧ ∀ (g' : Nat) (o' : Nat → Nat), g' < g → Ord k w g' o' → scr q k c o' < need
  | 0, w, c, need, _, h => ⟨0, fun _ => 0, by decide, trivial, trivial, h, fun g' o' h => absurd h (Nat.not_lt_zero _)⟩
  | k + 1, w, c, need, hk, h => by
    obtain ⟨y, hy7, hyw⟩ := cntb_some (w := w) 7 (by omega)
    obtain ⟨z, hz7, hzw, hz⟩ := mx_ex (g := fun i => q i c + Mx q k (er w i) (c + 1)) hy7 hyw
    have h : need ≤ q z c + Mx q k (er w z) (c + 1) := by rw [Mx, hz] at h; exact h
    obtain ⟨x, -, ⟨hx7, hxw, hxn⟩, hmin⟩ := least_ex (P := fun x => x < 7 ∧ w x = true ∧ need ≤ q x c + Mx q k (er w x) (c + 1)) z ⟨hz7, hzw, h⟩
    have hk' := er_cnt hxw hx7 hk
    obtain ⟨g, o, g1, g2, g3, g4, g5⟩ := greedy (q := q) k (er w x) (c + 1) (need - q x c) hk' (by omega)
    have hc : cntb w x < k + 1 := by rw [← hk]; exact cntb_lt hxw hx7
    have hf := fct_pos k
    have hm : (cntb w x + 1) * fct k ≤ (k + 1) * fct k := Nat.mul_le_mul_right _ (by omega)
    rw [Nat.succ_mul] at hm
    refine ⟨cntb w x * fct k + g, pre x o, ?_, ⟨hx7, hxw, hxn, fun i hi wi hn => hmin i hi ⟨Nat.lt_trans hi hx7, wi, hn⟩, g2⟩, ⟨hx7, hxw, (dv g1).1.symm, ?_⟩, ?_, ?_⟩
    · rw [fct]; omega
    · rw [(dv g1).2]; exact g3
    · show need ≤ q x c + scr q k (c + 1) o
      omega
    · intro g' o' hlt ho'
      obtain ⟨h0, w0, c0, r0⟩ := ho'
      have hd := Nat.div_add_mod g' (fct k)
      rw [Nat.mul_comm] at hd
      rw [scr]
      by_cases e : o' 0 = x
      · rw [e] at c0 r0
        rw [← c0] at hd
        have := g5 (g' % fct k) (fun a => o' (a + 1)) (by omega) r0
        rw [e]; omega
      · have hlx : o' 0 < x := by
          rcases Nat.lt_or_ge (o' 0) x with l | l
          · exact l
          · have h2 := cntb_lt hxw (show x < o' 0 by omega)
            have h3 : (cntb w x + 1) * fct k ≤ g' / fct k * fct k := Nat.mul_le_mul_right _ (by omega)
            rw [Nat.succ_mul] at h3
            omega
        have h4 : ¬ need ≤ q (o' 0) c + Mx q k (er w (o' 0)) (c + 1) := fun hn => hmin _ hlx ⟨h0, w0, hn⟩
        have h5 := Ord_ub (q := q) k (er w (o' 0)) (c + 1) _ _ r0
        omega
