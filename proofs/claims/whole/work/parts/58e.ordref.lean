/-! ORDER in the reference: every order by its number -/
theorem q_has7 {I i : Nat} (hI : I < 128) (hi : i < 7) : f_X9_has (nI I) (nI i) = some (bi (I.testBit i)) := by
  have h := bt_has ⟨I, hI⟩ ⟨i, hi⟩
  dsimp only at h
  rw [h, btn_nI i (by omega)] <;> rfl
theorem nth_ex {w : Nat → Bool} {p : Nat} : ∀ n : Nat, p < cntb w n → ∃ x : Nat, x < n ∧ w x = true ∧ cntb w x = p
  | 0, h => by rw [cntb] at h; omega
  | n + 1, h => by
    by_cases e : p < cntb w n
    · obtain ⟨x, a, b, c⟩ := nth_ex n e
      exact ⟨x, by omega, b, c⟩
    · cases z : w n with
      | false => rw [cntb_f z] at h; omega
      | true => rw [cntb_t z] at h; exact ⟨n, by omega, z, by omega⟩
theorem fct_le : ∀ k : Fin 8, fct k.val ≤ 5040 := by decide +kernel
theorem fct_le7 {k : Nat} (h : k ≤ 7) : fct k ≤ 5040 := fct_le ⟨k, by omega⟩
section QLO
variable {outs : Nat → Int32} {n I N : Nat}
theorem q_outs {m : Nat → Int32} (hm : m 0 = nI n) (hn : n ≤ 7) (h19 : m 19 = nI I) (hI : I < 128) : ∀ (d i fu : Nat) (outs : Nat → Int32), i + d = n → d < fu → (∀ x : Nat, x < i → wt n I x = true → outs (cntb (wt n I) x) = nI x) → ∃ outs' : Nat → Int32, f_X9_layOuts_b4 m fu outs (nI (cntb (wt n I) i)) (nI i) = some (nI (cntb (wt n I) n), outs') ∧ ∀ x : Nat, x < n → wt n I x = true → outs' (cntb (wt n I) x) = nI x := by
  intro d
  induction d with
  | zero =>
    intro i fu outs h1 h2 h3
    obtain ⟨fu, rfl⟩ : ∃ k, fu = k + 1 := ⟨fu - 1, by omega⟩
    have e : i = n := by omega
    refine ⟨outs, ?_, fun x hx => h3 x (by omega)⟩
    rw [f_X9_layOuts_b4, show f_X9_many m = some (m 0) from rfl, b_some, hm, e, if_pos (nI_le (by omega) (by omega))]
  | succ d ih =>
    intro i fu outs h1 h2 h3
    obtain ⟨fu, rfl⟩ : ∃ k, fu = k + 1 := ⟨fu - 1, by omega⟩
    have hc := cntb_le (wt n I) i
    rw [f_X9_layOuts_b4, show f_X9_many m = some (m 0) from rfl, b_some, hm, if_neg (nI_ge (by omega) (by omega)), show Int32.toNatClampNeg 19 = 19 from rfl, h19, q_has7 hI (by omega), b_some]
    unfold f_X9_layOuts_b36
    rw [show nI i + (1 : Int32) = nI (i + 1) from na_add i 1]
    cases z : I.testBit i with
    | false =>
      have hw : wt n I i = true := by unfold wt; rw [z, decide_eq_true (show i < n by omega)] <;> rfl
      obtain ⟨outs', e1, e2⟩ := ih (i + 1) fu (upd outs (cntb (wt n I) i) (nI i)) (by omega) (by omega) (fun x hx wx => by
        by_cases e : x = i
        · subst e; exact up_same _ _ _
        · have := cntb_lt wx (show x < i by omega)
          rw [up_ne _ _ (by omega)]; exact h3 x (by omega) wx)
      rw [cntb_t hw] at e1
      refine ⟨outs', ?_, e2⟩
      rw [if_pos bi_f, if_pos (nI_in (show cntb (wt n I) i < 7 by omega) (by decide)), nI_clamp (by omega), show nI (cntb (wt n I) i) + (1 : Int32) = nI (cntb (wt n I) i + 1) from na_add _ 1]
      exact e1
    | true =>
      have hw : wt n I i = false := by unfold wt; rw [z]; exact Bool.and_false _
      obtain ⟨outs', e1, e2⟩ := ih (i + 1) fu outs (by omega) (by omega) (fun x hx wx => by
        by_cases e : x = i
        · subst e; rw [hw] at wx; exact absurd wx (by decide)
        · exact h3 x (by omega) wx)
      rw [cntb_f hw] at e1
      refine ⟨outs', ?_, e2⟩
      rw [if_neg bi_t]; exact e1
/-- the one free place of so many before it -/
theorem q_seek {F j a : Nat} {order0 : Nat → Int32} {l2 l4 l5 : Int32} (k37 : (Nat → Int32) → Int32 → Int32 → Int32 → Int32 → Int32 → Option (Nat → Int32)) (hF : F < 128) (hj : j < 7) (hFj : F.testBit j = true) (ha : a < 7) : ∀ (d i fu : Nat), i + d = j → d < fu → f_X9_layOrder_b83 k37 outs fu order0 l2 (nI F) l4 l5 (nI a) (nI (cntb F.testBit j - cntb F.testBit i)) (nI i) = k37 (upd order0 a (outs j)) l2 (nI (F &&& (127 - 2 ^ j))) l4 l5 (nI (a + 1)) := by
  have hcj := cntb_le F.testBit j
  intro d
  induction d with
  | zero =>
    intro i fu h1 h2
    obtain ⟨fu, rfl⟩ : ∃ k, fu = k + 1 := ⟨fu - 1, by omega⟩
    have e : i = j := by omega
    subst e
    have hclr := bt_clr ⟨F, hF⟩ ⟨i, hj⟩
    dsimp only at hclr
    rw [f_X9_layOrder_b83, q_has7 hF hj, b_some, hFj, if_neg bi_t, Nat.sub_self, if_pos (show nI 0 ≤ (0 : Int32) by decide), if_pos (nI_in hj (by decide)), if_pos (nI_in ha (by decide)), nI_clamp (by omega), nI_clamp (by omega), hclr, show nI a + (1 : Int32) = nI (a + 1) from na_add a 1]
  | succ d ih =>
    intro i fu h1 h2
    obtain ⟨fu, rfl⟩ : ∃ k, fu = k + 1 := ⟨fu - 1, by omega⟩
    have h := ih (i + 1) fu (by omega) (by omega)
    have hle := cntb_le2 (g := F.testBit) (v := i + 1) j (by omega)
    rw [f_X9_layOrder_b83, q_has7 hF (by omega), b_some]
    unfold f_X9_layOrder_b97 f_X9_layOrder_b113
    rw [q_has7 hF (by omega), b_some, show nI i + (1 : Int32) = nI (i + 1) from na_add i 1]
    cases z : F.testBit i with
    | false =>
      rw [cntb_f z] at h
      rw [if_pos bi_f, if_pos bi_f, show nI (cntb F.testBit j - cntb F.testBit i) - (0 : Int32) = nI (cntb F.testBit j - cntb F.testBit i) from na_sub (a := cntb F.testBit j - cntb F.testBit i) (b := 0) (Nat.zero_le _)]
      exact h
    | true =>
      rw [cntb_t z] at h hle
      rw [if_neg bi_t, if_neg (nI_nle (by omega) (by omega)), if_neg bi_t, show nI (cntb F.testBit j - cntb F.testBit i) - (1 : Int32) = nI (cntb F.testBit j - cntb F.testBit i - 1) from na_sub (a := cntb F.testBit j - cntb F.testBit i) (b := 1) (by omega), show cntb F.testBit j - cntb F.testBit i - 1 = cntb F.testBit j - (cntb F.testBit i + 1) by omega]
      exact h
/-- the free places against those who wait -/
def Rl (n I : Nat) (w : Nat → Bool) (F : Nat) : Prop := F < 128 ∧ (∀ x : Nat, w x = true → wt n I x = true) ∧ ∀ x : Nat, wt n I x = true → F.testBit (cntb (wt n I) x) = w x
theorem Rl.cnt {w : Nat → Bool} {F : Nat} (h : Rl n I w F) : ∀ x : Nat, cntb F.testBit (cntb (wt n I) x) = cntb w x
  | 0 => rfl
  | x + 1 => by
    have ih := h.cnt x
    cases z : wt n I x with
    | true =>
      rw [cntb_t z, cntb, ih, h.2.2 x z, cntb]
    | false =>
      have hw : w x = false := by
        cases y : w x with
        | false => rfl
        | true => rw [h.2.1 x y] at z; exact absurd z (by decide)
      rw [cntb_f z, cntb_f hw, ih]
theorem cnt7 {n I x : Nat} (hn : n ≤ 7) (hx : wt n I x = true) : cntb (wt n I) x < 7 := by
  have h1 := (wt_in hx).1
  have h2 := cntb_le (wt n I) x
  omega
theorem Rl.next {w : Nat → Bool} {F x : Nat} (h : Rl n I w F) (hn : n ≤ 7) (hx : w x = true) : Rl n I (er w x) (F &&& (127 - 2 ^ cntb (wt n I) x)) := by
  have hx' := h.2.1 x hx
  refine ⟨Nat.lt_of_le_of_lt Nat.and_le_left h.1, fun y hy => ?_, fun y hy => ?_⟩
  · refine h.2.1 y ?_
    unfold er at hy
    cases z : w y with
    | true => rfl
    | false => rw [z, Bool.false_and] at hy; exact absurd hy (by decide)
  · have hg := bt_getc ⟨F, h.1⟩ ⟨cntb (wt n I) x, cnt7 hn hx'⟩ ⟨cntb (wt n I) y, cnt7 hn hy⟩
    dsimp only at hg
    rw [hg, h.2.2 y hy]
    unfold er
    by_cases e : y = x
    · rw [decide_eq_true (show cntb (wt n I) x = cntb (wt n I) y by rw [e]), decide_eq_true e]
    · rw [decide_eq_false e, decide_eq_false (fun q => e (cntb_inj hy hx' q.symm))]
theorem q_decode (hn : n ≤ 7) (hN : N ≤ 7) (houts : ∀ x : Nat, x < n → wt n I x = true → outs (cntb (wt n I) x) = nI x) : ∀ (k a fu F rest : Nat) (w : Nat → Bool) (order0 : Nat → Int32), a + k = N → k < fu → Rl n I w F → cntb w 7 = k → rest < fct k → ∃ (o : Nat → Nat) (order0' : Nat → Int32), f_X9_layOrder_b37 outs fu order0 (nI N) (nI F) (nI rest) (nI (fct (k - 1))) (nI a) = some order0' ∧ Ord k w rest o ∧ (∀ b : Nat, b < k → order0' (a + b) = nI (o b)) ∧ ∀ b : Nat, b < a → order0' b = order0 b := by
  intro k
  induction k with
  | zero =>
    intro a fu F rest w order0 h1 h2 hR hw hr
    obtain ⟨fu, rfl⟩ : ∃ k, fu = k + 1 := ⟨fu - 1, by omega⟩
    refine ⟨fun _ => 0, order0, ?_, trivial, fun b hb => by omega, fun _ _ => rfl⟩
    rw [f_X9_layOrder_b37, if_pos (nI_le (by omega) (by omega))]
  | succ k ih =>
    intro a fu F rest w order0 h1 h2 hR hw hr
    obtain ⟨fu, rfl⟩ : ∃ k, fu = k + 1 := ⟨fu - 1, by omega⟩
    have hf := fct_pos k
    have hf7 := fct_le7 (k := k) (by omega)
    have hf8 := fct_le7 (k := k + 1) (by omega)
    have hp : rest / fct k < k + 1 := by
      rw [fct, Nat.mul_comm] at hr
      exact Nat.div_lt_of_lt_mul hr
    have hrm : rest % fct k < fct k := Nat.mod_lt _ hf
    obtain ⟨x, hx7, hxw, hxc⟩ := nth_ex (w := w) (p := rest / fct k) 7 (by omega)
    have hxt := hR.2.1 x hxw
    have hj := cnt7 hn hxt
    have hFj : F.testBit (cntb (wt n I) x) = true := (hR.2.2 x hxt).trans hxw
    have hcj : cntb F.testBit (cntb (wt n I) x) = rest / fct k := (hR.cnt x).trans hxc
    obtain ⟨o, order1, e1, e2, e3, e4⟩ := ih (a + 1) fu (F &&& (127 - 2 ^ cntb (wt n I) x)) (rest % fct k) (er w x) (upd order0 a (nI x)) (by omega) (by omega) (hR.next hn hxw) (er_cnt hxw hx7 hw) hrm
    refine ⟨pre x o, order1, ?_, ⟨hx7, hxw, hxc, e2⟩, fun b hb => ?_, fun b hb => ?_⟩
    · have hs := q_seek (outs := outs) (F := F) (j := cntb (wt n I) x) (a := a) (order0 := order0) (l2 := nI N) (l4 := nI (rest % fct k)) (l5 := nI (fct (k - 1))) (f_X9_layOrder_b37 outs fu) hR.1 hj hFj (by omega) (cntb (wt n I) x) 0 s_fuel (by omega) (by unfold s_fuel; omega)
      rw [hcj, houts x (wt_in hxt).1 hxt] at hs
      have hne : ¬ nI (fct k) = 0 := fun q => by have := (nI_eq (by omega) (by decide)).mp (show nI (fct k) = nI 0 from q); omega
      have hq : nI rest / nI (fct k) = nI (rest / fct k) := na_div (by omega) hf (by omega)
      have hm' : nI rest - nI rest / nI (fct k) * nI (fct k) = nI (rest % fct k) := na_rem (by omega) hf (by omega)
      rw [f_X9_layOrder_b37, if_neg (nI_ge (by omega) (by omega)), Nat.add_sub_cancel, if_pos hne, if_pos hne, hm', hq]
      unfold f_X9_layOrder_b81
      refine Eq.trans ?_ (hs.trans e1)
      by_cases hk : k ≤ 1
      · have hc : nI N - (2 : Int32) ≤ nI a := by
          by_cases h2 : 2 ≤ N
          · rw [show nI N - (2 : Int32) = nI (N - 2) from na_sub (a := N) (b := 2) h2]; exact nI_le (by omega) (by omega)
          · have n1 : N = 1 := by omega
            have a0 : a = 0 := by omega
            rw [n1, a0]; decide
        have hf1 : nI (fct (k - 1)) = (1 : Int32) := by
          rcases (show k = 0 ∨ k = 1 by omega) with rfl | rfl <;> rfl
        rw [if_pos hc, hf1] <;> rfl
      · obtain ⟨z, rfl⟩ : ∃ z, k = z + 2 := ⟨k - 2, by omega⟩
        have hc : ¬ nI N - (2 : Int32) ≤ nI a := by
          rw [show nI N - (2 : Int32) = nI (N - 2) from na_sub (a := N) (b := 2) (by omega)]; exact nI_ge (by omega) (by omega)
        have hd : (nI N - (1 : Int32)) - nI a = nI (z + 2) := by
          rw [show nI N - (1 : Int32) = nI (N - 1) from na_sub (a := N) (b := 1) (by omega), na_sub (by omega), show N - 1 - a = z + 2 by omega]
        have hdv : nI (fct (z + 2)) / nI (z + 2) = nI (fct (z + 2 - 1)) := by
          rw [na_div (by omega) (by omega) (by omega)]
          show nI (fct (z + 2) / (z + 2)) = nI (fct (z + 1))
          rw [show fct (z + 2) = (z + 2) * fct (z + 1) from rfl, Nat.mul_div_cancel_left _ (by omega)]
        rw [if_neg hc, hd, if_pos (fun q => by have := (nI_eq (by omega) (by decide)).mp (show nI (z + 2) = nI 0 from q); omega), hdv] <;> rfl
    · cases b with
      | zero => rw [Nat.add_zero, e4 a (by omega), up_same] <;> rfl
      | succ b =>
        have := e3 b (by omega)
        rw [show a + 1 + b = a + (b + 1) by omega] at this
        exact this
    · rw [e4 b (by omega), up_ne _ _ (by omega)]
theorem q_layOrder {code : Nat} {order0 : Nat → Int32} (hn : n ≤ 7) (hN : cntb (wt n I) 7 = N) (houts : ∀ x : Nat, x < n → wt n I x = true → outs (cntb (wt n I) x) = nI x) (hc : code < fct N) : ∃ (o : Nat → Nat) (order0' : Nat → Int32), f_X9_layOrder outs order0 (nI code) (nI N) = some order0' ∧ Ord N (wt n I) code o ∧ ∀ b : Nat, b < N → order0' b = nI (o b) := by
  have hN7 : N ≤ 7 := by rw [← hN]; exact cntb_le _ _
  have hp7 : 2 ^ N ≤ 2 ^ 7 := Nat.pow_le_pow_right (by decide) hN7
  have hp0 : 0 < 2 ^ N := Nat.two_pow_pos N
  have hR : Rl n I (wt n I) (2 ^ N - 1) := by
    refine ⟨by omega, fun _ h => h, fun x hx => ?_⟩
    rw [Nat.testBit_two_pow_sub_one, hx]
    have := cntb_lt hx (show x < 7 by have := (wt_in hx).1; omega)
    exact decide_eq_true (by omega)
  obtain ⟨o, order1, e1, e2, e3, -⟩ := q_decode (outs := outs) hn hN7 houts N 0 s_fuel (2 ^ N - 1) code (wt n I) order0 (by omega) (by unfold s_fuel; omega) hR hN hc
  refine ⟨o, order1, ?_, e2, fun b hb => by have := e3 b hb; rw [Nat.zero_add] at this; exact this⟩
  have loop : ∀ (d j fu : Nat), 2 ≤ j → (j + d = N ∨ (d = 0 ∧ N < j ∧ j = 2)) → d < fu → f_X9_layOrder_b15 outs fu order0 (nI N) (nI (2 ^ N - 1)) (nI code) (nI (fct (j - 1))) (nI j) = f_X9_layOrder_b37 outs s_fuel order0 (nI N) (nI (2 ^ N - 1)) (nI code) (nI (fct (N - 1))) (nI 0) := by
    intro d
    induction d with
    | zero =>
      intro j fu h0 h1 h2
      obtain ⟨fu, rfl⟩ : ∃ k, fu = k + 1 := ⟨fu - 1, by omega⟩
      have hf : fct (j - 1) = fct (N - 1) := by
        rcases h1 with h1 | ⟨-, h1, h3⟩
        · rw [show j = N by omega]
        · subst h3
          rcases (show N = 0 ∨ N = 1 by omega) with e | e <;> rw [e] <;> rfl
      rw [f_X9_layOrder_b15, if_pos (nI_le (by omega) (by omega)), hf] <;> rfl
    | succ d ih =>
      intro j fu h0 h1 h2
      obtain ⟨fu, rfl⟩ : ∃ k, fu = k + 1 := ⟨fu - 1, by omega⟩
      have h := ih (j + 1) fu (by omega) (by omega) (by omega)
      rw [f_X9_layOrder_b15, if_neg (nI_ge (by omega) (by omega)), na_mul, show nI j + (1 : Int32) = nI (j + 1) from na_add j 1]
      rw [Nat.add_sub_cancel] at h
      rw [show fct (j - 1) * j = fct j by
        obtain ⟨z, rfl⟩ : ∃ z, j = z + 1 := ⟨j - 1, by omega⟩
        rw [Nat.add_sub_cancel, fct, Nat.mul_comm]]
      exact h
  have hshift : ((1 : Int32) <<< (nI N &&& 31)) - (1 : Int32) = nI (2 ^ N - 1) := by
    rw [na_one (by omega)]; exact na_sub (a := 2 ^ N) (b := 1) hp0
  unfold f_X9_layOrder
  rw [hshift]
  by_cases h2 : 2 ≤ N
  · exact (loop (N - 2) 2 s_fuel (by omega) (Or.inl (by omega)) (by unfold s_fuel; omega)).trans e1
  · exact (loop 0 2 s_fuel (by omega) (Or.inr ⟨rfl, by omega, rfl⟩) (by unfold s_fuel; omega)).trans e1
end QLO
