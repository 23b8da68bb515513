/-! how many answer alike at most -/
def alk (S : Nat → Bool) (t : Nat → Int32) (a : Nat) : Nat → Bool := fun b => (S a && S b) && decide (t a = t b)
def mxa (S : Nat → Bool) (t : Nat → Int32) : Nat → Nat
  | 0 => 0
  | a + 1 => if mxa S t a < cntb (alk S t a) 6 then cntb (alk S t a) 6 else mxa S t a
theorem mxa_le (S : Nat → Bool) (t : Nat → Int32) : ∀ a : Nat, mxa S t a ≤ 6
  | 0 => by rw [mxa]; omega
  | a + 1 => by
    rw [mxa]; split
    · exact cntb_le _ _
    · exact mxa_le S t a
theorem mxa_congr {S : Nat → Bool} {t t' : Nat → Int32} (h : ∀ q, q < 6 → t q = t' q) : ∀ a : Nat, a ≤ 6 → mxa S t a = mxa S t' a
  | 0, _ => rfl
  | a + 1, ha => by
    have e : cntb (alk S t a) 6 = cntb (alk S t' a) 6 := cntb_congr 6 fun k hk => by
      unfold alk; rw [h a (by omega), h k hk]
    rw [mxa, mxa, e, mxa_congr h a (by omega)]
theorem alk_no {S : Nat → Bool} {t : Nat → Int32} {a : Nat} (h : S a = false) : ∀ n : Nat, cntb (alk S t a) n = 0
  | 0 => rfl
  | n + 1 => by rw [cntb_f (show alk S t a n = false by unfold alk; rw [h] <;> rfl), alk_no h n]
theorem bt_two : ∀ I : Fin 64, ∀ a : Fin 6, ∀ b : Fin 6, (((nI I.val >>> (nI a.val &&& 31)) &&& (nI I.val >>> (nI b.val &&& 31))) &&& (1 : Int32)) = bi (I.val.testBit a.val && I.val.testBit b.val) := by decide +kernel
theorem q_two {S : Nat → Bool} {a b : Nat} (ha : a < 6) (hb : b < 6) : (((nI (msk S 6) >>> (nI a &&& 31)) &&& (nI (msk S 6) >>> (nI b &&& 31))) &&& (1 : Int32)) = bi (S a && S b) := by
  have h := bt_two ⟨msk S 6, msk_lt S 6⟩ ⟨a, ha⟩ ⟨b, hb⟩
  dsimp only at h
  rw [h, msk_bit S 6 a ha, msk_bit S 6 b hb]
theorem q_hasS {S : Nat → Bool} {a : Nat} (ha : a < 6) : f_X9_has (nI (msk S 6)) (nI a) = some (bi (S a)) := by
  have hl : msk S 6 < 128 := Nat.lt_trans (msk_lt S 6) (by decide)
  have h := bt_has ⟨msk S 6, hl⟩ ⟨a, by omega⟩
  dsimp only at h
  rw [h, btn_nI _ (by omega), msk_bit S 6 a ha] <;> rfl
theorem bi_1 {b : Bool} : bi b = 1 ↔ b = true := by cases b <;> decide
theorem q_alike16 {S : Nat → Bool} {a : Nat} (t : Nat → Int32) (k : Int32 → Int32 → Int32 → Option Int32) (ha : a < 6) : ∀ (d b fu : Nat), b + d = 6 → d < fu → f_X7_mostAlike_b16 k t fu (nI (msk S 6)) (nI (mxa S t a)) (nI a) (nI (cntb (alk S t a) b)) (nI b) = k (nI (msk S 6)) (nI (mxa S t (a + 1))) (nI (a + 1)) := by
  intro d
  induction d with
  | zero =>
    intro b fu h1 h2
    obtain ⟨fu, rfl⟩ : ∃ k, fu = k + 1 := ⟨fu - 1, by omega⟩
    have l1 := mxa_le S t a
    have l2 := cntb_le (alk S t a) 6
    rw [f_X7_mostAlike_b16, show b = 6 by omega, if_pos (show (6 : Int32) ≤ nI 6 by decide), show nI a + (1 : Int32) = nI (a + 1) from na_add a 1, mxa]
    by_cases z : mxa S t a < cntb (alk S t a) 6
    · rw [if_pos (nI_lt z (by omega)), if_pos z]
    · rw [if_neg (nI_nlt (by omega) (by omega)), if_neg z]
  | succ d ih =>
    intro b fu h1 h2
    obtain ⟨fu, rfl⟩ : ∃ k, fu = k + 1 := ⟨fu - 1, by omega⟩
    have h := ih (b + 1) fu (by omega) (by omega)
    have n1 : (1 : Int32) + 0 = 1 := rfl
    rw [f_X7_mostAlike_b16, if_neg (show ¬ (6 : Int32) ≤ nI b from nI_ge (b := 6) (by omega) (by decide)), q_two ha (by omega)]
    unfold f_X7_mostAlike_b42 f_X7_mostAlike_b68
    rw [show nI b + (1 : Int32) = nI (b + 1) from na_add b 1, if_neg no10, if_pos rfl, if_pos (nI_in ha (by decide)), if_pos (nI_in (show b < 6 by omega) (by decide)), nI_clamp (by omega), nI_clamp (by omega), show nI (cntb (alk S t a) b) + (1 : Int32) = nI (cntb (alk S t a) b + 1) from na_add _ 1]
    cases e : S a && S b with
    | false =>
      rw [cntb_f (show alk S t a b = false by unfold alk; rw [e] <;> rfl)] at h
      rw [if_neg (show ¬ bi false = 1 by decide)]; exact h
    | true =>
      rw [if_pos (show bi true = 1 from rfl)]
      by_cases z : t a = t b
      · rw [cntb_t (show alk S t a b = true by unfold alk; rw [e, decide_eq_true z] <;> rfl)] at h
        rw [if_pos z]; exact h
      · rw [cntb_f (show alk S t a b = false by unfold alk; rw [e, decide_eq_false z] <;> rfl)] at h
        rw [if_neg z]; exact h
theorem q_al72 {t : Nat → Int32} {x y a : Nat} {l1 : Int32} (k : Int32 → Int32 → Int32 → Option Int32) (hx : x ≤ 6) (hy : y ≤ 6) : f_X9_mostAlike_b72 k t l1 (nI x) (nI a) (nI y) = k l1 (nI (if x < y then y else x)) (nI (a + 1)) := by
  unfold f_X9_mostAlike_b72 f_X9_mostAlike_b84
  rw [show nI a + (1 : Int32) = nI (a + 1) from na_add a 1]
  by_cases z : x < y
  · rw [if_neg (nI_ge z (by omega)), if_pos z]
  · rw [if_pos (nI_le (by omega) (by omega)), if_neg z]
theorem q_alike16' {S : Nat → Bool} {a : Nat} (t : Nat → Int32) (k : Int32 → Int32 → Int32 → Option Int32) (ha : a < 6) : ∀ (d b fu : Nat), b + d = 6 → d < fu → f_X9_mostAlike_b16 k t fu (nI (msk S 6)) (nI (mxa S t a)) (nI a) (nI (cntb (alk S t a) b)) (nI b) = k (nI (msk S 6)) (nI (mxa S t (a + 1))) (nI (a + 1)) := by
  intro d
  induction d with
  | zero =>
    intro b fu h1 h2
    obtain ⟨fu, rfl⟩ : ∃ k, fu = k + 1 := ⟨fu - 1, by omega⟩
    rw [f_X9_mostAlike_b16, show b = 6 by omega, if_pos (show (6 : Int32) ≤ nI 6 by decide), q_al72 k (mxa_le S t a) (cntb_le _ _), mxa]
  | succ d ih =>
    intro b fu h1 h2
    obtain ⟨fu, rfl⟩ : ∃ k, fu = k + 1 := ⟨fu - 1, by omega⟩
    have h := ih (b + 1) fu (by omega) (by omega)
    rw [f_X9_mostAlike_b16, if_neg (show ¬ (6 : Int32) ≤ nI b from nI_ge (b := 6) (by omega) (by decide)), q_hasS ha, b_some]
    cases e : S a with
    | false =>
      rw [if_pos bi_f, alk_no e, q_al72 k (mxa_le S t a) (Nat.zero_le _), mxa, alk_no e]
    | true =>
      rw [if_neg bi_t, q_hasS (show b < 6 by omega), b_some]
      unfold f_X9_mostAlike_b62 f_X9_mostAlike_b63
      rw [show nI b + (1 : Int32) = nI (b + 1) from na_add b 1, if_pos (nI_in ha (by decide)), if_pos (nI_in (show b < 6 by omega) (by decide)), nI_clamp (by omega), nI_clamp (by omega), show nI (cntb (alk S t a) b) + (1 : Int32) = nI (cntb (alk S t a) b + 1) from na_add _ 1, Int32.add_zero]
      cases e2 : S b with
      | false =>
        rw [cntb_f (show alk S t a b = false by unfold alk; rw [e, e2] <;> rfl)] at h
        rw [if_pos bi_f]; exact h
      | true =>
        rw [if_neg bi_t]
        by_cases z : t a = t b
        · rw [cntb_t (show alk S t a b = true by unfold alk; rw [e, e2, decide_eq_true z] <;> rfl)] at h
          rw [if_pos z]; exact h
        · rw [cntb_f (show alk S t a b = false by unfold alk; rw [e, e2, decide_eq_false z] <;> rfl)] at h
          rw [if_neg z]; exact h
theorem q_ma8 (S : Nat → Bool) (t : Nat → Int32) : f_X7_mostAlike t (nI (msk S 6)) = some (nI (mxa S t 6)) := by
  have loop : ∀ (d a fu : Nat), a + d = 6 → d < fu → f_X7_mostAlike_b4 t fu (nI (msk S 6)) (nI (mxa S t a)) (nI a) = some (nI (mxa S t 6)) := by
    intro d
    induction d with
    | zero =>
      intro a fu h1 h2
      obtain ⟨fu, rfl⟩ : ∃ k, fu = k + 1 := ⟨fu - 1, by omega⟩
      rw [f_X7_mostAlike_b4, show a = 6 by omega, if_pos (show (6 : Int32) ≤ nI 6 by decide)]
    | succ d ih =>
      intro a fu h1 h2
      obtain ⟨fu, rfl⟩ : ∃ k, fu = k + 1 := ⟨fu - 1, by omega⟩
      rw [f_X7_mostAlike_b4, if_neg (show ¬ (6 : Int32) ≤ nI a from nI_ge (b := 6) (by omega) (by decide))]
      exact (q_alike16 t (f_X7_mostAlike_b4 t fu) (by omega) 6 0 s_fuel (by omega) (by unfold s_fuel; omega)).trans (ih (a + 1) fu (by omega) (by omega))
  exact loop 6 0 s_fuel (by omega) (by unfold s_fuel; omega)
theorem q_ma9 (S : Nat → Bool) (t : Nat → Int32) : f_X9_mostAlike t (nI (msk S 6)) = some (nI (mxa S t 6)) := by
  have loop : ∀ (d a fu : Nat), a + d = 6 → d < fu → f_X9_mostAlike_b4 t fu (nI (msk S 6)) (nI (mxa S t a)) (nI a) = some (nI (mxa S t 6)) := by
    intro d
    induction d with
    | zero =>
      intro a fu h1 h2
      obtain ⟨fu, rfl⟩ : ∃ k, fu = k + 1 := ⟨fu - 1, by omega⟩
      rw [f_X9_mostAlike_b4, show a = 6 by omega, if_pos (show (6 : Int32) ≤ nI 6 by decide)]
    | succ d ih =>
      intro a fu h1 h2
      obtain ⟨fu, rfl⟩ : ∃ k, fu = k + 1 := ⟨fu - 1, by omega⟩
      rw [f_X9_mostAlike_b4, if_neg (show ¬ (6 : Int32) ≤ nI a from nI_ge (b := 6) (by omega) (by decide))]
      exact (q_alike16' t (f_X9_mostAlike_b4 t fu) (by omega) 6 0 s_fuel (by omega) (by unfold s_fuel; omega)).trans (ih (a + 1) fu (by omega) (by omega))
  exact loop 6 0 s_fuel (by omega) (by unfold s_fuel; omega)
/-- so many places filled anew -/
def fil (A g : Nat → Int32) (z : Nat) : Nat → Int32 := fun q => if q < z then g q else A q
theorem fil_step (A g : Nat → Int32) (z : Nat) : upd (fil A g z) z (g z) = fil A g (z + 1) := by
  funext q
  by_cases e : q = z
  · subst e; rw [up_same]; unfold fil; rw [if_pos (by omega)]
  · rw [up_ne _ _ e]; unfold fil
    by_cases h : q < z
    · rw [if_pos h, if_pos (by omega)]
    · rw [if_neg h, if_neg (by omega)]
theorem fil_zero (A g : Nat → Int32) : fil A g 0 = A := by funext q; exact if_neg (by omega)
theorem mxa_fil (S : Nat → Bool) (A g : Nat → Int32) : mxa S (fil A g 6) 6 = mxa S g 6 := mxa_congr (fun q hq => if_pos hq) 6 (Nat.le_refl 6)
