/-- the hand while an order is gone through -/
def HO (m : Nat → Int32) (P f T : Nat) (w : Nat → Bool) (c s : Nat) (h : Nat → Int32) : Prop := (∀ k : Nat, k < 38 → k ≠ 19 → k ≠ 20 → k ≠ 21 → (k < 12 ∨ 19 ≤ k) → h k = m k) ∧ (∀ i : Nat, i < 7 → w i = true → h (12 + i) = m (12 + i)) ∧ (∃ J : Nat, J < 128 ∧ h 19 = nI J ∧ pcount (nI J) = P + mn f s ∧ ∀ i : Nat, w i = true → J.testBit i = false) ∧ h 20 = nI (if T + c < 99 then T + c else 99)
theorem wh_next (T c : Nat) : mor (nI (if T + c < 99 then T + c else 99)) 99 = nI (if T + (c + 1) < 99 then T + (c + 1) else 99) := by
  unfold mor
  by_cases z : T + c < 99
  · rw [if_pos z, if_neg (nI_ge z (by decide)), show nI (T + c) + (1 : Int32) = nI (T + c + 1) from na_add _ 1]
    by_cases y : T + (c + 1) < 99
    · rw [if_pos y] <;> rfl
    · rw [if_neg y, show T + c + 1 = 99 by omega]
  · rw [if_neg z, if_pos (nI_le (Nat.le_refl 99) (by decide)), if_neg (by omega)]
theorem er_t {w : Nat → Bool} {x i : Nat} (h : er w x i = true) : w i = true ∧ ¬ i = x := by
  unfold er at h
  cases a : w i with
  | false => rw [a, Bool.false_and] at h; exact absurd h (by decide)
  | true =>
    refine ⟨rfl, fun e => ?_⟩
    rw [a, decide_eq_true e] at h; exact absurd h (by decide)
section QRUN
variable {m h r outs : Nat → Int32} {t T P f c s i J : Nat} {w : Nat → Bool}
theorem q_goRaw (h19 : h 19 = nI J) (hJ : J < 128) (h22 : h 22 = nI t) (ht : t < 2 ^ 31) (hi : i < 7) (hb : J.testBit i = false) : f_X9_goCome 38 h (nI i) = if op h i (h (25 + t % 6)) = 0 then some (0, upd (upd h 21 (mor (h 21) 9999)) 20 (mor (h 20) 99)) else some (1, upd (upd (upd h 19 (nI (J ||| 2 ^ i))) (12 + i) (mor (h (12 + i)) 99)) 20 (mor (h 20) 99)) := by
  have hl : f_X9_letsIn 38 h (nI i) = some (op h i (h (25 + t % 6))) := by
    rw [q_letsIn9 (by decide) (by decide) h19 hJ h22 ht hi, h19, btn_nI i (by omega), hb, if_neg (by decide)]
  have g20 : ∀ {X Y : Option (Int32 × (Nat → Int32))}, (if ¬ ((20 : Int32) < 0 ∨ 38 ≤ (Int32.toNatClampNeg 20)) then X else Y) = X := if_pos (nI_in (c := 20) (by omega) (by omega))
  have g21 : ∀ {X Y : Option (Int32 × (Nat → Int32))}, (if ¬ ((21 : Int32) < 0 ∨ 38 ≤ (Int32.toNatClampNeg 21)) then X else Y) = X := if_pos (nI_in (c := 21) (by omega) (by omega))
  have g19 : ∀ {X Y : Option (Int32 × (Nat → Int32))}, (if ¬ ((19 : Int32) < 0 ∨ 38 ≤ (Int32.toNatClampNeg 19)) then X else Y) = X := if_pos (nI_in (c := 19) (by omega) (by omega))
  have h20 : ∀ {X Y : Option (Int32 × (Nat → Int32))}, (if ¬ ((20 : Int32) < 0 ∨ 38 ≤ 20) then X else Y) = X := g20
  have h21 : ∀ {X Y : Option (Int32 × (Nat → Int32))}, (if ¬ ((21 : Int32) < 0 ∨ 38 ≤ 21) then X else Y) = X := g21
  have g12 : ∀ {X Y : Option (Int32 × (Nat → Int32))}, (if ¬ (nI (12 + i) < 0 ∨ 38 ≤ (Int32.toNatClampNeg (nI (12 + i)))) then X else Y) = X := if_pos (nI_in (by omega) (by omega))
  have e19 : Int32.toNatClampNeg 19 = 19 := rfl
  have e20 : Int32.toNatClampNeg 20 = 20 := rfl
  have e21 : Int32.toNatClampNeg 21 = 21 := rfl
  have b54 : ∀ (f : Nat → Int32) (q : Int32), (q = 0 ∨ q = 1) → f_X9_goCome_b54 38 f q = some (q, upd f 20 (mor (f 20) 99)) := fun f q hq => by
    unfold f_X9_goCome_b54
    rw [g20, e20, show (99 : Int32) = nI 99 from rfl, q_more, b_some, h20]
    rcases hq with rfl | rfl
    · rfl
    · rfl
  rcases op01 h i (h (25 + t % 6)) with q | q
  · rw [q, if_pos rfl]
    unfold f_X9_goCome
    rw [hl, q, b_some, if_pos rfl, g21, e21, show (9999 : Int32) = nI 9999 from rfl, q_more, b_some, h21, b54 _ 0 (Or.inl rfl), up_ne _ _ (show (20 : Nat) ≠ 21 by decide)]
  · have hset : (h 19 ||| ((1 : Int32) <<< (nI i &&& 31))) = nI (J ||| 2 ^ i) := by rw [h19]; exact bt_set ⟨J, hJ⟩ ⟨i, hi⟩
    rw [q, if_neg no10]
    unfold f_X9_goCome
    rw [hl, q, b_some, if_neg no10, g19, g19, show (12 : Int32) + nI i = nI (12 + i) from na_add 12 i, g12, e19, hset, nI_clamp (by omega), up_ne _ _ (show 12 + i ≠ 19 by omega), show (99 : Int32) = nI 99 from rfl, q_more, b_some]
    have g12' := @g12
    rw [nI_clamp (by omega)] at g12'
    rw [g12', b54 _ 1 (Or.inr rfl), up_ne _ _ (show (20 : Nat) ≠ 12 + i by omega), up_ne _ _ (show (20 : Nat) ≠ 19 by decide)]
theorem q_goO (hRo : m 24 = nI (P + f)) (hPf : P + f ≤ 7) (h22 : m 22 = nI t) (ht : t < 2 ^ 31) (hH : HO m P f T w c s h) (hi : i < 7) (hw : w i = true) : ∃ (b : Int32) (h' : Nat → Int32), f_X9_goCome 38 h (nI i) = some (b, h') ∧ nI (mn f s) + b = nI (mn f (s + qO m t T i c)) ∧ HO m P f T (er w i) (c + 1) (s + qO m t T i c) h' := by
  obtain ⟨k0, k1, ⟨J, hJ, eJ, pJ, bJ⟩, k2⟩ := hH
  have h6 := nat6 t
  have e22 : h 22 = m 22 := k0 22 (by decide) (by decide) (by decide) (by decide) (by omega)
  have hgo := q_goRaw (i := i) eJ hJ (e22.trans h22) ht hi (bJ i hw)
  have hop : op h i (h (25 + t % 6)) = if P + f ≤ P + mn f s then 0 else if psO m t T c < lkO m i then 0 else 1 := by
    unfold op psO lkO
    rw [k0 24 (by decide) (by decide) (by decide) (by decide) (by omega), k0 23 (by decide) (by decide) (by decide) (by decide) (by omega), k0 (25 + t % 6) (by omega) (by omega) (by omega) (by omega) (by omega), k0 (31 + i) (by omega) (by omega) (by omega) (by omega) (by omega), k0 (5 + i) (by omega) (by omega) (by omega) (by omega) (by omega), k1 i hi hw, e22, k2, eJ, pJ, hRo]
    by_cases z : P + f ≤ P + mn f s
    · rw [if_pos z, if_pos (nI_le z (by unfold mn at z ⊢; split <;> omega))]
    · rw [if_neg z, if_neg (nI_ge (by omega) (by omega))]
  have hq0 : psO m t T c < lkO m i → qO m t T i c = 0 := fun z => if_pos z
  have hq1 : ¬ psO m t T c < lkO m i → qO m t T i c = 1 := fun z => if_neg z
  have hqle := qO_le m t T i c
  have stay : op h i (h (25 + t % 6)) = 0 → mn f (s + qO m t T i c) = mn f s → ∃ (b : Int32) (h' : Nat → Int32), f_X9_goCome 38 h (nI i) = some (b, h') ∧ nI (mn f s) + b = nI (mn f (s + qO m t T i c)) ∧ HO m P f T (er w i) (c + 1) (s + qO m t T i c) h' := fun h0 hm => by
    rw [if_pos h0] at hgo
    refine ⟨0, _, hgo, by rw [hm]; exact na_add _ 0, fun k a1 a2 a3 a4 a5 => by rw [up_ne _ _ a3, up_ne _ _ a4]; exact k0 k a1 a2 a3 a4 a5, fun j hj ej => by rw [up_ne _ _ (by omega), up_ne _ _ (by omega)]; exact k1 j hj (er_t ej).1, ⟨J, hJ, ?_, by rw [hm]; exact pJ, fun j ej => bJ j (er_t ej).1⟩, ?_⟩
    · rw [up_ne _ _ (by decide), up_ne _ _ (by decide)]; exact eJ
    · rw [up_same, k2]; exact wh_next T c
  by_cases hs : s < f
  · have hms : mn f s = s := if_pos hs
    by_cases z : psO m t T c < lkO m i
    · refine stay ?_ (by rw [hq0 z]; rfl)
      rw [hop, if_neg (by rw [hms]; omega), if_pos z]
    · have hms1 : mn f (s + qO m t T i c) = s + 1 := by rw [hq1 z]; unfold mn; split <;> omega
      have h1 : op h i (h (25 + t % 6)) = 1 := by rw [hop, if_neg (by rw [hms]; omega), if_neg z]
      rw [h1, if_neg no10] at hgo
      obtain ⟨s1, s2⟩ := bt_setn ⟨J, hJ⟩ ⟨i, hi⟩
      dsimp only at s1 s2
      refine ⟨1, _, hgo, by rw [hms, hms1]; exact na_add s 1, fun k a1 a2 a3 a4 a5 => by rw [up_ne _ _ a3, up_ne _ _ (by omega), up_ne _ _ a2]; exact k0 k a1 a2 a3 a4 a5, fun j hj ej => by rw [up_ne _ _ (by omega), up_ne _ _ (by have := (er_t ej).2; omega), up_ne _ _ (by omega)]; exact k1 j hj (er_t ej).1, ⟨J ||| 2 ^ i, s1, ?_, ?_, fun j ej => ?_⟩, ?_⟩
      · rw [up_ne _ _ (by decide), up_ne _ _ (by omega), up_same]
      · rw [s2 (bJ i hw), pJ, hms, hms1]; rfl
      · have hne := (er_t ej).2
        rw [Nat.testBit_or, Nat.testBit_two_pow, bJ j (er_t ej).1, decide_eq_false (fun e => hne e.symm)]; rfl
      · rw [up_same, k2]; exact wh_next T c
  · have hms : mn f s = f := if_neg hs
    refine stay ?_ (by rw [hms]; exact if_neg (by omega))
    rw [hop, if_pos (by rw [hms]; omega)]
theorem q_run68 {N : Nat} {order0 best : Nat → Int32} {p nf v cd : Int32} (k45 : (Nat → Int32) → (Nat → Int32) → (Nat → Int32) → (Nat → Int32) → (Nat → Int32) → Int32 → Int32 → Int32 → Int32 → Int32 → Option (Int32 × (Nat → Int32) × (Nat → Int32) × (Nat → Int32) × (Nat → Int32) × (Nat → Int32))) (hRo : m 24 = nI (P + f)) (hPf : P + f ≤ 7) (h22 : m 22 = nI t) (ht : t < 2 ^ 31) (hN : N ≤ 7) : ∀ (k a fu code s : Nat) (w : Nat → Bool) (h : Nat → Int32) (o : Nat → Nat), a + k = N → k < fu → Ord k w code o → HO m P f T w a s h → (∀ b : Nat, b < k → order0 (a + b) = nI (o b)) → ∃ h' : Nat → Int32, f_X9_order_b68 k45 m fu r h outs order0 best p (nI N) nf v cd (nI (mn f s)) (nI a) = if nI (mn f (s + scr (qO m t T) k a o)) ≤ v then f_X9_order_b139 k45 m r h' outs order0 best p (nI N) nf v cd else f_X9_order_b113 k45 m s_fuel r h' outs order0 best p (nI N) nf (nI (mn f (s + scr (qO m t T) k a o))) cd (0 : Int32) := by
  intro k
  induction k with
  | zero =>
    intro a fu code s w h o h1 h2 hO hH ho
    obtain ⟨fu, rfl⟩ : ∃ k, fu = k + 1 := ⟨fu - 1, by omega⟩
    refine ⟨h, ?_⟩
    rw [f_X9_order_b68, if_pos (nI_le (by omega) (by omega))]; rfl
  | succ k ih =>
    intro a fu code s w h o h1 h2 hO hH ho
    obtain ⟨fu, rfl⟩ : ∃ k, fu = k + 1 := ⟨fu - 1, by omega⟩
    obtain ⟨o1, o2, -, o4⟩ := hO
    obtain ⟨b, h1', e1, e2, e3⟩ := q_goO (i := o 0) hRo hPf h22 ht hH o1 o2
    obtain ⟨h2', e4⟩ := ih (a + 1) fu _ (s + qO m t T (o 0) a) (er w (o 0)) h1' (fun b => o (b + 1)) (by omega) (by omega) o4 e3 (fun b hb => by
      have := ho (b + 1) (by omega)
      rw [show a + (b + 1) = a + 1 + b by omega] at this; exact this)
    refine ⟨h2', ?_⟩
    have h0 : order0 a = nI (o 0) := ho 0 (by omega)
    rw [f_X9_order_b68, if_neg (nI_ge (by omega) (by omega)), if_pos (nI_in (show a < 7 by omega) (by decide)), nI_clamp (by omega), h0, e1, b_some]
    dsimp only
    rw [e2, show nI a + (1 : Int32) = nI (a + 1) from na_add a 1, scr, ← Nat.add_assoc]
    exact e4
theorem q_copy113 {N : Nat} {order0 : Nat → Int32} {p nf v cd : Int32} (k45 : (Nat → Int32) → (Nat → Int32) → (Nat → Int32) → (Nat → Int32) → (Nat → Int32) → Int32 → Int32 → Int32 → Int32 → Int32 → Option (Int32 × (Nat → Int32) × (Nat → Int32) × (Nat → Int32) × (Nat → Int32) × (Nat → Int32))) (hN : N ≤ 7) : ∀ (d j fu : Nat) (best : Nat → Int32), j + d = N → d < fu → ∃ best' : Nat → Int32, f_X9_order_b113 k45 m fu r h outs order0 best p (nI N) nf v cd (nI j) = k45 r h outs order0 best' p (nI N) nf v (cd + 1) ∧ (∀ b : Nat, j ≤ b → b < N → best' b = order0 b) ∧ ∀ b : Nat, b < j → best' b = best b := by
  intro d
  induction d with
  | zero =>
    intro j fu best h1 h2
    obtain ⟨fu, rfl⟩ : ∃ k, fu = k + 1 := ⟨fu - 1, by omega⟩
    refine ⟨best, ?_, fun b h1 h2 => by omega, fun _ _ => rfl⟩
    rw [f_X9_order_b113, if_pos (nI_le (by omega) (by omega))]; rfl
  | succ d ih =>
    intro j fu best h1 h2
    obtain ⟨fu, rfl⟩ : ∃ k, fu = k + 1 := ⟨fu - 1, by omega⟩
    obtain ⟨best', e1, e2, e3⟩ := ih (j + 1) fu (upd best j (order0 j)) (by omega) (by omega)
    refine ⟨best', ?_, fun b hb1 hb2 => ?_, fun b hb => by rw [e3 b (by omega), up_ne _ _ (by omega)]⟩
    · rw [f_X9_order_b113, if_neg (nI_ge (by omega) (by omega)), if_pos (nI_in (show j < 7 by omega) (by decide)), if_pos (nI_in (show j < 7 by omega) (by decide)), nI_clamp (by omega), show nI j + (1 : Int32) = nI (j + 1) from na_add j 1]
      exact e1
    · by_cases e : b = j
      · rw [e, e3 j (by omega), up_same]
      · exact e2 b (by omega) hb2
theorem HO.first {n I : Nat} {hand : Nat → Int32} (h19 : m 19 = nI I) (hI : I < 128) (h20 : m 20 = nI T) (hT : T ≤ 99) : HO m (pcount (m 19)) f T (wt n I) 0 0 (cp hand m 0 0 38) := by
  refine ⟨fun k a1 a2 a3 a4 a5 => lay_get a1, fun i hi _ => lay_get (by omega), ⟨I, hI, by rw [lay_get (by decide)]; exact h19, ?_, fun i hi => (wt_in hi).2⟩, ?_⟩
  · rw [← h19]
    have : mn f 0 = 0 := by unfold mn; split <;> omega
    rw [this] <;> rfl
  · rw [lay_get (by decide), h20]
    by_cases z : T + 0 < 99
    · rw [if_pos z] <;> rfl
    · rw [if_neg z, show T = 99 by omega]
theorem q_scan {n I N g Let : Nat} {p : Int32} {o : Nat → Nat} (hn : n ≤ 7) (h19 : m 19 = nI I) (hI : I < 128) (h20 : m 20 = nI T) (hT : T ≤ 99) (hRo : m 24 = nI (pcount (m 19) + f)) (hPf : pcount (m 19) + f ≤ 7) (h22 : m 22 = nI t) (ht : t < 2 ^ 31) (hN : cntb (wt n I) 7 = N) (houts : ∀ x : Nat, x < n → wt n I x = true → outs (cntb (wt n I) x) = nI x) (hLet : Let = mn f (Mx (qO m t T) N (wt n I) 0)) (hg : g < fct N) (hO : Ord N (wt n I) g o) (hge : Let ≤ scr (qO m t T) N 0 o) (hlt : ∀ (g' : Nat) (o' : Nat → Nat), g' < g → Ord N (wt n I) g' o' → scr (qO m t T) N 0 o' < Let) : ∀ (d code fu : Nat) (hand order0 best : Nat → Int32) (v : Int32), code + d = fct N → d < fu → ((code ≤ g ∧ (v = -1 ∨ ∃ x : Nat, x < Let ∧ v = nI x)) ∨ (g < code ∧ v = nI Let ∧ ∀ b : Nat, b < N → best b = nI (o b))) → ∃ hand' order0' best' : Nat → Int32, f_X9_order_b45 m fu r hand outs order0 best p (nI N) (nI (fct N)) v (nI code) = (if p = (-1 : Int32) then some (nI Let, r, hand', outs, order0', best') else (if p < nI N then (if ¬ (p < 0 ∨ 7 ≤ (Int32.toNatClampNeg p)) then some ((best' (Int32.toNatClampNeg p)), r, hand', outs, order0', best') else none) else some ((-5 : Int32), r, hand', outs, order0', best'))) ∧ ∀ b : Nat, b < N → best' b = nI (o b) := by
  have hN7 : N ≤ 7 := by rw [← hN]; exact cntb_le _ _
  have hf7 := fct_le7 hN7
  have hM := Mx_le (qO_le m t T) N (wt n I) 0
  have hLf : Let ≤ f := by rw [hLet]; unfold mn; split <;> omega
  intro d
  induction d with
  | zero =>
    intro code fu hand order0 best v h1 h2 hst
    obtain ⟨fu, rfl⟩ : ∃ k, fu = k + 1 := ⟨fu - 1, by omega⟩
    rcases hst with ⟨l1, -⟩ | ⟨l1, l2, l3⟩
    · omega
    · refine ⟨hand, order0, best, ?_, l3⟩
      rw [f_X9_order_b45, if_pos (nI_le (by omega) (by omega)), l2]
  | succ d ih =>
    intro code fu hand order0 best v h1 h2 hst
    obtain ⟨fu, rfl⟩ : ∃ k, fu = k + 1 := ⟨fu - 1, by omega⟩
    obtain ⟨o', order1, e1, e2, e3⟩ := q_layOrder (outs := outs) (order0 := order0) hn hN houts (show code < fct N by omega)
    obtain ⟨h', e4⟩ := q_run68 (m := m) (r := r) (outs := outs) (order0 := order1) (best := best) (p := p) (nf := nI (fct N)) (v := v) (cd := nI code) (t := t) (T := T) (f_X9_order_b45 m fu) hRo hPf h22 ht hN7 N 0 s_fuel code 0 (wt n I) (cp hand m 0 0 38) o' (by omega) (by unfold s_fuel; omega) e2 (HO.first h19 hI h20 hT) (fun b hb => by rw [Nat.zero_add]; exact e3 b hb)
    rw [Nat.zero_add] at e4
    have hz : mn f 0 = 0 := by unfold mn; split <;> omega
    rw [hz] at e4
    have hub := Ord_ub (q := qO m t T) N (wt n I) 0 code o' e2
    have e5 : f_X9_order_b45 m (fu + 1) r hand outs order0 best p (nI N) (nI (fct N)) v (nI code) = if nI (mn f (scr (qO m t T) N 0 o')) ≤ v then f_X9_order_b139 (f_X9_order_b45 m fu) m r h' outs order1 best p (nI N) (nI (fct N)) v (nI code) else f_X9_order_b113 (f_X9_order_b45 m fu) m s_fuel r h' outs order1 best p (nI N) (nI (fct N)) (nI (mn f (scr (qO m t T) N 0 o'))) (nI code) (0 : Int32) := by
      rw [f_X9_order_b45, if_neg (nI_ge (by omega) (by omega)), e1, b_some, q_layHand, b_some]
      exact e4
    have hm139 : ∀ v : Int32, f_X9_order_b139 (f_X9_order_b45 m fu) m r h' outs order1 best p (nI N) (nI (fct N)) v (nI code) = f_X9_order_b45 m fu r h' outs order1 best p (nI N) (nI (fct N)) v (nI (code + 1)) := fun v => by
      unfold f_X9_order_b139
      rw [show nI code + (1 : Int32) = nI (code + 1) from na_add code 1]
    obtain ⟨best1, c1, c2, -⟩ := q_copy113 (m := m) (h := h') (r := r) (outs := outs) (order0 := order1) (p := p) (nf := nI (fct N)) (v := nI (mn f (scr (qO m t T) N 0 o'))) (cd := nI code) (f_X9_order_b45 m fu) hN7 N 0 s_fuel best (by omega) (by unfold s_fuel; omega)
    rw [show nI code + (1 : Int32) = nI (code + 1) from na_add code 1] at c1
    have are_le : mn f (scr (qO m t T) N 0 o') ≤ f ∧ mn f (scr (qO m t T) N 0 o') ≤ scr (qO m t T) N 0 o' := by unfold mn; split <;> omega
    rcases hst with ⟨l1, l2⟩ | ⟨l1, l2, l3⟩
    · by_cases hcg : code < g
      · have hsc := hlt code o' hcg e2
        by_cases z : nI (mn f (scr (qO m t T) N 0 o')) ≤ v
        · obtain ⟨hand', order0', best', q1, q2⟩ := ih (code + 1) fu h' order1 best v (by omega) (by omega) (Or.inl ⟨by omega, l2⟩)
          exact ⟨hand', order0', best', by rw [e5, if_pos z, hm139]; exact q1, q2⟩
        · obtain ⟨hand', order0', best', q1, q2⟩ := ih (code + 1) fu h' order1 best1 (nI (mn f (scr (qO m t T) N 0 o'))) (by omega) (by omega) (Or.inl ⟨by omega, Or.inr ⟨_, by omega, rfl⟩⟩)
          refine ⟨hand', order0', best', ?_, q2⟩
          rw [e5, if_neg z]; exact c1.trans q1
      · have hcg' : code = g := by omega
        subst hcg'
        have hoo := Ord_one N (wt n I) code o' o e2 hO
        have hsc := scr_congr (q := qO m t T) N 0 o' o hoo
        have hare : mn f (scr (qO m t T) N 0 o') = Let := by
          rw [hsc] at hub ⊢
          rw [hLet] at hge ⊢
          unfold mn at hge ⊢
          by_cases y : Mx (qO m t T) N (wt n I) 0 < f
          · rw [if_pos y] at hge ⊢; rw [if_pos (by omega)]; omega
          · rw [if_neg y] at hge ⊢; rw [if_neg (by omega)]
        have hnv : ¬ nI (mn f (scr (qO m t T) N 0 o')) ≤ v := by
          rw [hare]
          rcases l2 with l2 | ⟨x, hx, l2⟩
          · rw [l2, p_le, nI_toInt (by omega)]
            show ¬ (Let : Int) ≤ -1
            omega
          · rw [l2]; exact nI_ge hx (by omega)
        obtain ⟨hand', order0', best', q1, q2⟩ := ih (code + 1) fu h' order1 best1 (nI (mn f (scr (qO m t T) N 0 o'))) (by omega) (by omega) (Or.inr ⟨by omega, by rw [hare], fun b hb => by rw [c2 b (Nat.zero_le b) hb, e3 b hb, hoo b hb]⟩)
        refine ⟨hand', order0', best', ?_, q2⟩
        rw [e5, if_neg hnv]; exact c1.trans q1
    · have hle : mn f (scr (qO m t T) N 0 o') ≤ Let := by
        rw [hLet]
        unfold mn
        by_cases y : Mx (qO m t T) N (wt n I) 0 < f
        · rw [if_pos y, if_pos (by omega)]; exact hub
        · rw [if_neg y]; split <;> omega
      obtain ⟨hand', order0', best', q1, q2⟩ := ih (code + 1) fu h' order1 best v (by omega) (by omega) (Or.inr ⟨by omega, l2, l3⟩)
      exact ⟨hand', order0', best', by rw [e5, if_pos (by rw [l2]; exact nI_le hle (by omega)), hm139]; exact q1, q2⟩
theorem cntb_wt {n I : Nat} : ∀ k : Nat, cntb (wt n I) (n + k) = cntb (wt n I) n
  | 0 => rfl
  | k + 1 => by
    rw [← Nat.add_assoc, cntb_f (show wt n I (n + k) = false by unfold wt; rw [decide_eq_false (by omega), Bool.false_and])]
    exact cntb_wt k
theorem q_orderRef {n I N g Let : Nat} {p : Int32} {o : Nat → Nat} {hand outs0 order0 best : Nat → Int32} (hm : m 0 = nI n) (hn : n ≤ 7) (h19 : m 19 = nI I) (hI : I < 128) (h20 : m 20 = nI T) (hT : T ≤ 99) (hRo : m 24 = nI (pcount (m 19) + f)) (hPf : pcount (m 19) + f ≤ 7) (h22 : m 22 = nI t) (ht : t < 2 ^ 31) (hN : cntb (wt n I) 7 = N) (hLet : Let = mn f (Mx (qO m t T) N (wt n I) 0)) (hg : g < fct N) (hO : Ord N (wt n I) g o) (hge : Let ≤ scr (qO m t T) N 0 o) (hlt : ∀ (g' : Nat) (o' : Nat → Nat), g' < g → Ord N (wt n I) g' o' → scr (qO m t T) N 0 o' < Let) (hp : (-1 : Int32) ≤ p) : ∃ hand' outs' order0' best' : Nat → Int32, f_X9_order m r hand outs0 order0 best p = (if p = (-1 : Int32) then some (nI Let, r, hand', outs', order0', best') else (if p < nI N then (if ¬ (p < 0 ∨ 7 ≤ (Int32.toNatClampNeg p)) then some ((best' (Int32.toNatClampNeg p)), r, hand', outs', order0', best') else none) else some ((-5 : Int32), r, hand', outs', order0', best'))) ∧ ∀ b : Nat, b < N → best' b = nI (o b) := by
  have hN7 : N ≤ 7 := by rw [← hN]; exact cntb_le _ _
  have hf7 := fct_le7 hN7
  obtain ⟨outs', u1, u2⟩ := q_outs hm hn h19 hI n 0 s_fuel outs0 (by omega) (by unfold s_fuel; omega) (fun x hx => by omega)
  have hNn : cntb (wt n I) n = N := by
    rw [← hN, show (7 : Nat) = n + (7 - n) by omega]; exact (cntb_wt _).symm
  rw [hNn] at u1
  obtain ⟨hand', order0', best', q1, q2⟩ := q_scan (r := r) (outs := outs') (p := p) hn h19 hI h20 hT hRo hPf h22 ht hN u2 hLet hg hO hge hlt (fct N) 0 s_fuel hand order0 best (-1) (by omega) (by unfold s_fuel; omega) (Or.inl ⟨Nat.zero_le g, Or.inl rfl⟩)
  refine ⟨hand', outs', order0', best', ?_, q2⟩
  have loop : ∀ (d j fu : Nat), 2 ≤ j → (j + d = N + 1 ∨ (d = 0 ∧ N < j ∧ j = 2)) → d < fu → f_X9_order_b25 m fu r hand outs' order0 best p (nI N) (nI (fct (j - 1))) (-1) (nI j) = f_X9_order_b45 m s_fuel r hand outs' order0 best p (nI N) (nI (fct N)) (-1) (nI 0) := by
    intro d
    induction d with
    | zero =>
      intro j fu h0 h1 h2
      obtain ⟨fu, rfl⟩ : ∃ k, fu = k + 1 := ⟨fu - 1, by omega⟩
      have hf : fct (j - 1) = fct N := by
        rcases h1 with h1 | ⟨-, h1, h3⟩
        · rw [show j - 1 = N by omega]
        · subst h3
          rcases (show N = 0 ∨ N = 1 by omega) with e | e <;> rw [e] <;> rfl
      rw [f_X9_order_b25, if_pos (nI_lt (by omega) (by omega)), hf]; rfl
    | succ d ih =>
      intro j fu h0 h1 h2
      obtain ⟨fu, rfl⟩ : ∃ k, fu = k + 1 := ⟨fu - 1, by omega⟩
      have h := ih (j + 1) fu (by omega) (by omega) (by omega)
      rw [f_X9_order_b25, if_neg (nI_nlt (by omega) (by omega)), na_mul, show nI j + (1 : Int32) = nI (j + 1) from na_add j 1]
      rw [Nat.add_sub_cancel] at h
      rw [show fct (j - 1) * j = fct j by
        obtain ⟨z, rfl⟩ : ∃ z, j = z + 1 := ⟨j - 1, by omega⟩
        rw [Nat.add_sub_cancel, fct, Nat.mul_comm]]
      exact h
  unfold f_X9_order f_X9_layOuts
  rw [if_pos hp, show f_X9_layOuts_b4 m s_fuel outs0 (0 : Int32) (0 : Int32) = some (nI N, outs') from u1, b_some]
  by_cases h2 : 2 ≤ N
  · exact (loop (N - 1) 2 s_fuel (by omega) (Or.inl (by omega)) (by unfold s_fuel; omega)).trans q1
  · exact (loop 0 2 s_fuel (by omega) (Or.inr ⟨rfl, by omega, rfl⟩) (by unfold s_fuel; omega)).trans q1
end QRUN
