/-! ORDER in the class: a table over who has come -/
def wt (n I : Nat) : Nat → Bool := fun i => decide (i < n) && !I.testBit i
def wv (A s : Nat) : Nat → Bool := fun i => A.testBit i && !s.testBit i
def pc7 (s : Nat) : Nat := cntb s.testBit 7
def lkO (m : Nat → Int32) (i : Nat) : Int32 := lk (m (31 + i)) (m (5 + i)) (m (12 + i)) (m 22)
def psO (m : Nat → Int32) (t T c : Nat) : Int32 := ps (m 23) (m (25 + t % 6)) (nI (if T + c < 99 then T + c else 99))
def qO (m : Nat → Int32) (t T i c : Nat) : Nat := if psO m t T c < lkO m i then 0 else 1
def Mw (q : Nat → Nat → Nat) (w : Nat → Bool) (c : Nat) : Nat := Mx q (cntb w 7) w c
theorem qO_le (m : Nat → Int32) (t T i c : Nat) : qO m t T i c ≤ 1 := by unfold qO; split <;> omega
theorem Mw_eq (q : Nat → Nat → Nat) (w : Nat → Bool) (c : Nat) : Mw q w c = mx w (fun i => q i c + Mw q (er w i) (c + 1)) 7 := by
  unfold Mw
  cases hk : cntb w 7 with
  | zero => rw [Mx, mx_none 7 (fun i hi => cntb_zero hk hi)]
  | succ k =>
    rw [Mx]
    refine mx_congr 7 (fun i hi hw => ?_)
    show q i c + Mx q k (er w i) (c + 1) = q i c + Mx q (cntb (er w i) 7) (er w i) (c + 1)
    rw [er_cnt hw hi hk]
theorem Mw_le {q : Nat → Nat → Nat} (hq : ∀ i c, q i c ≤ 1) (w : Nat → Bool) (c : Nat) : Mw q w c ≤ 7 := Nat.le_trans (Mx_le hq _ w c) (cntb_le w 7)
theorem bt_not : ∀ s : Fin 128, (nI s.val ^^^ (-1 : Int32)) = nI (4294967295 - s.val) := by decide +kernel
theorem bt_notbit : ∀ s : Fin 128, ∀ i : Fin 7, (4294967295 - s.val).testBit i.val = !s.val.testBit i.val := by decide +kernel
theorem bt_bit0 : ∀ X : Fin 128, ∀ i : Fin 7, (if (nI X.val &&& ((1 : Int32) <<< (nI i.val &&& 31))) = 0 then (0 : Int32) else 1) = bi (X.val.testBit i.val) := by decide +kernel
theorem bt_swar : ∀ s : Fin 128, swar s.val = pc7 s.val ∧ pc7 s.val ≤ 7 := by decide +kernel
theorem bt_next : ∀ s : Fin 128, ∀ i : Fin 7, s.val.testBit i.val = false → (pc7 (s.val ||| 2 ^ i.val) = pc7 s.val + 1 ∧ s.val < s.val ||| 2 ^ i.val) := by decide +kernel
def ann (A s : Nat) : Nat := A &&& (4294967295 - s)
theorem ann_lt {A s : Nat} (hA : A < 128) : ann A s < 128 := Nat.lt_of_le_of_lt Nat.and_le_left hA
theorem ann_bit {A s i : Nat} (hs : s < 128) (hi : i < 7) : (ann A s).testBit i = wv A s i := by
  have h := bt_notbit ⟨s, hs⟩ ⟨i, hi⟩
  dsimp only at h
  unfold ann wv
  rw [Nat.testBit_and, h]
theorem q_andn {A s : Nat} (hs : s < 128) : (nI A &&& (nI s ^^^ (-1 : Int32))) = nI (ann A s) := by
  have h := bt_not ⟨s, hs⟩
  dsimp only at h
  rw [h, na_and] <;> rfl
theorem q_waits {A s i : Nat} (hA : A < 128) (hs : s < 128) (hi : i < 7) : f_X3_waits (nI A) (nI i) (nI s) = some (bi (wv A s i)) := by
  have h := bt_bit0 ⟨ann A s, ann_lt hA⟩ ⟨i, hi⟩
  dsimp only at h
  rw [ann_bit hs hi] at h
  unfold f_X3_waits
  rw [q_andn hs, ← h]
  split <;> rfl
theorem nI_max {x y : Nat} (hx : x < 2 ^ 31) (hy : y < 2 ^ 31) : (if nI x < nI y then nI y else nI x) = nI (if x < y then y else x) := by
  by_cases z : x < y
  · rw [if_pos (nI_lt z hy), if_pos z]
  · rw [if_neg (nI_nlt (by omega) hx), if_neg z]
theorem wv_next (A s i : Nat) : wv A (s ||| 2 ^ i) = er (wv A s) i := by
  funext j
  show (A.testBit j && !(s ||| 2 ^ i).testBit j) = ((A.testBit j && !s.testBit j) && !decide (j = i))
  rw [Nat.testBit_or, Nat.testBit_two_pow]
  by_cases e : i = j
  · have d1 : decide (i = j) = true := decide_eq_true e
    have d2 : decide (j = i) = true := decide_eq_true e.symm
    rw [d1, d2]; cases A.testBit j <;> cases s.testBit j <;> rfl
  · have d1 : decide (i = j) = false := decide_eq_false e
    have d2 : decide (j = i) = false := decide_eq_false (fun h => e h.symm)
    rw [d1, d2]; cases A.testBit j <;> cases s.testBit j <;> rfl
def sub7 (s A : Nat) : Prop := ∀ i : Nat, s.testBit i = true → A.testBit i = true
theorem sub_ann {s A : Nat} (hs : s < 128) (hA : A < 128) (h : sub7 s A) : ann s A = 0 := by
  apply Nat.eq_of_testBit_eq
  intro i
  rw [Nat.zero_testBit]
  by_cases hi : i < 7
  · rw [ann_bit hA hi]; unfold wv
    cases e : s.testBit i with
    | false => rfl
    | true => rw [h i e] <;> rfl
  · exact tb_big (ann_lt hs) (by omega)
theorem ann_sub {s A : Nat} (hs : s < 128) (hA : A < 128) (h : ann s A = 0) : sub7 s A := by
  intro i hi
  by_cases h7 : i < 7
  · have e := ann_bit (A := s) hA h7
    rw [h, Nat.zero_testBit] at e
    unfold wv at e
    rw [hi, Bool.true_and] at e
    cases z : A.testBit i with
    | true => rfl
    | false => rw [z] at e; exact absurd e (by decide)
  · rw [tb_big hs (by omega)] at hi; exact absurd hi (by decide)
theorem sub_next {s A i : Nat} (h : sub7 s A) (hi : A.testBit i = true) : sub7 (s ||| 2 ^ i) A := by
  intro j hj
  rw [Nat.testBit_or, Nat.testBit_two_pow] at hj
  by_cases e : i = j
  · rw [← e]; exact hi
  · have d1 : decide (i = j) = false := decide_eq_false e
    rw [d1, Bool.or_false] at hj; exact h j hj
theorem wv_t {A s i : Nat} (h : wv A s i = true) : A.testBit i = true ∧ s.testBit i = false := by
  unfold wv at h
  cases a : A.testBit i with
  | false => rw [a, Bool.false_and] at h; exact absurd h (by decide)
  | true =>
    cases b : s.testBit i with
    | false => exact ⟨rfl, rfl⟩
    | true => rw [a, b] at h; exact absurd h (by decide)
/-- what the table holds, from a place on -/
def Tb (q : Nat → Nat → Nat) (A : Nat) (best : Nat → Int32) (lo : Nat) : Prop := ∀ s : Nat, lo ≤ s → s < 128 → sub7 s A → best s = nI (Mw q (wv A s) (pc7 s))
section QOC
variable {wets gc m best likely : Nat → Int32} {gn host rooms night wheels : Int32} {t T A : Nat}
theorem q_letsBehind {s : Nat} (hW : GW wets m) (hh : host = m 23) (hnt : night = nI t) (ht : t < 2 ^ 31) (hw : wheels = nI T) (hT : T ≤ 99) (hs : s < 128) : f_X3_letsBehind wets host night wheels (nI s) = some (psO m t T (pc7 s)) := by
  obtain ⟨h1, h2⟩ := bt_swar ⟨s, hs⟩
  dsimp only at h1 h2
  unfold f_X3_letsBehind f_X1_letsPass psO
  rw [q_bitCount (by omega), b_some, q_wetNow hW hnt ht, b_some, h1, hw, na_add, q_ps, b_some, b_some, hh]
  by_cases z : T + pc7 s < 99
  · rw [if_pos (show nI (T + pc7 s) < (99 : Int32) from nI_lt (b := 99) z (by decide)), if_pos z]
  · rw [if_neg (show ¬ nI (T + pc7 s) < (99 : Int32) from nI_nlt (b := 99) (by omega) (by omega)), if_neg z] <;> rfl
theorem q_gain {s i : Nat} {lets : Int32} (hs : s < 128) (hi : i < 7) : f_X3_gain best likely (nI i) (nI s) lets = some (best (s ||| 2 ^ i) + (if lets < likely i then 0 else 1)) := by
  have hset := bt_set ⟨s, hs⟩ ⟨i, hi⟩
  have hlt := (bt_setn ⟨s, hs⟩ ⟨i, hi⟩).1
  dsimp only at hset hlt
  unfold f_X3_gain f_X3_gain_b31
  rw [hset, if_neg (nI_pos (by omega)), if_neg (show ¬ (128 : Int32) ≤ nI (s ||| 2 ^ i) from nI_ge (b := 128) hlt (by decide)), if_pos (nI_in hlt (by decide)), nI_clamp (by omega), if_neg (nI_pos (by omega)), if_neg (show ¬ (7 : Int32) ≤ nI i from nI_ge (b := 7) hi (by decide)), if_pos (nI_in hi (by decide)), nI_clamp (by omega)]
  by_cases z : lets < likely i
  · rw [if_pos z, if_pos z, Int32.add_zero]
  · rw [if_neg z, if_neg z]
theorem q_gainW {s i lo : Nat} (hTb : Tb (qO m t T) A best lo) (hlo : lo ≤ s + 1) (hlk : ∀ j : Nat, A.testBit j = true → likely j = lkO m j) (hs : s < 128) (hsub : sub7 s A) (hi : i < 7) (hw : wv A s i = true) : f_X3_gain best likely (nI i) (nI s) (psO m t T (pc7 s)) = some (nI (qO m t T i (pc7 s) + Mw (qO m t T) (er (wv A s) i) (pc7 s + 1))) := by
  obtain ⟨hA, hb⟩ := wv_t hw
  have hlt := (bt_setn ⟨s, hs⟩ ⟨i, hi⟩).1
  have hnx := bt_next ⟨s, hs⟩ ⟨i, hi⟩
  dsimp only at hlt hnx
  obtain ⟨n1, n2⟩ := hnx hb
  rw [q_gain hs hi, hTb (s ||| 2 ^ i) (by omega) hlt (sub_next hsub hA), n1, wv_next, hlk i hA]
  refine congrArg some ?_
  by_cases z : psO m t T (pc7 s) < lkO m i
  · rw [if_pos z, show qO m t T i (pc7 s) = 0 from if_pos z, Int32.add_zero, Nat.zero_add]
  · rw [if_neg z, show qO m t T i (pc7 s) = 1 from if_neg z, Nat.add_comm 1]; exact na_add _ 1
theorem q_mostBehind {s : Nat} (hA : A < 128) (hW : GW wets m) (hh : host = m 23) (hnt : night = nI t) (ht : t < 2 ^ 31) (hwh : wheels = nI T) (hT : T ≤ 99) (hTb : Tb (qO m t T) A best (s + 1)) (hlk : ∀ j : Nat, A.testBit j = true → likely j = lkO m j) (hs : s < 128) (hsub : sub7 s A) : f_X3_mostBehind best likely (nI A) wets host night wheels (nI s) = some (nI (Mw (qO m t T) (wv A s) (pc7 s))) := by
  have bg : ∀ i : Nat, qO m t T i (pc7 s) + Mw (qO m t T) (er (wv A s) i) (pc7 s + 1) ≤ 8 := fun i => by
    have h1 := qO_le m t T i (pc7 s)
    have h2 := Mw_le (qO_le m t T) (er (wv A s) i) (pc7 s + 1)
    omega
  have loop : ∀ (d i fu : Nat), i + d = 7 → d < fu → f_X3_mostBehind_b13 best likely (nI A) wets host night wheels fu (nI s) (psO m t T (pc7 s)) (nI (mx (wv A s) (fun i => qO m t T i (pc7 s) + Mw (qO m t T) (er (wv A s) i) (pc7 s + 1)) i)) (nI i) = some (nI (mx (wv A s) (fun i => qO m t T i (pc7 s) + Mw (qO m t T) (er (wv A s) i) (pc7 s + 1)) 7)) := by
    intro d
    induction d with
    | zero =>
      intro i fu h1 h2
      obtain ⟨fu, rfl⟩ : ∃ k, fu = k + 1 := ⟨fu - 1, by omega⟩
      rw [f_X3_mostBehind_b13, show i = 7 by omega, if_pos (show (7 : Int32) ≤ nI 7 by decide)]
    | succ d ih =>
      intro i fu h1 h2
      obtain ⟨fu, rfl⟩ : ∃ k, fu = k + 1 := ⟨fu - 1, by omega⟩
      have h := ih (i + 1) fu (by omega) (by omega)
      rw [mx] at h
      have b1 := mx_bound (w := wv A s) (g := fun i => qO m t T i (pc7 s) + Mw (qO m t T) (er (wv A s) i) (pc7 s + 1)) (b := 8) i (fun j _ _ => bg j)
      have b2 := bg i
      rw [f_X3_mostBehind_b13, if_neg (show ¬ (7 : Int32) ≤ nI i from nI_ge (b := 7) (by omega) (by decide)), q_waits hA hs (by omega), b_some]
      unfold f_X3_mostBehind_b45
      rw [show nI i + (1 : Int32) = nI (i + 1) from na_add i 1]
      cases hw : wv A s i with
      | false =>
        rw [hw, if_neg (by decide)] at h
        rw [if_pos bi_f]; exact h
      | true =>
        rw [hw, if_pos rfl] at h
        rw [if_neg bi_t, q_gainW hTb (Nat.le_refl _) hlk hs hsub (by omega) hw, b_some, nI_max (by omega) (by omega)]
        exact h
  unfold f_X3_mostBehind
  rw [q_letsBehind hW hh hnt ht hwh hT hs, b_some, Mw_eq]
  exact loop 7 0 s_fuel (by omega) (by unfold s_fuel; omega)
/-- nobody is left -/
theorem q_idle30 {came : Nat} {places : Nat → Int32} {length lt l3 l4 lets : Int32} (k12 : (Nat → Int32) → Int32 → Int32 → Int32 → Int32 → Option ((Nat → Int32) × Int32)) (hA : A < 128) (hc : came < 128) (hno : ∀ i : Nat, i < 7 → wv A came i = false) : ∀ (d i fu : Nat), i + d = 7 → d < fu → f_X3_choose_b30 k12 best likely (nI A) lt wets host night wheels fu places length (nI came) l3 l4 lets (nI i) = k12 places length (nI came) l3 (l4 + 1) := by
  intro d
  induction d with
  | zero =>
    intro i fu h1 h2
    obtain ⟨fu, rfl⟩ : ∃ k, fu = k + 1 := ⟨fu - 1, by omega⟩
    rw [f_X3_choose_b30, show i = 7 by omega, if_pos (show (7 : Int32) ≤ nI 7 by decide)] <;> rfl
  | succ d ih =>
    intro i fu h1 h2
    obtain ⟨fu, rfl⟩ : ∃ k, fu = k + 1 := ⟨fu - 1, by omega⟩
    rw [f_X3_choose_b30, if_neg (show ¬ (7 : Int32) ≤ nI i from nI_ge (b := 7) (by omega) (by decide)), q_waits hA hc (by omega), b_some, hno i (by omega), if_pos bi_f]
    unfold f_X3_choose_b107
    rw [show nI i + (1 : Int32) = nI (i + 1) from na_add i 1]
    exact ih (i + 1) fu (by omega) (by omega)
theorem q_idle12 {came : Nat} {places : Nat → Int32} {length lt l3 : Int32} (hW : GW wets m) (hh : host = m 23) (hnt : night = nI t) (ht : t < 2 ^ 31) (hwh : wheels = nI T) (hT : T ≤ 99) (hA : A < 128) (hc : came < 128) (hno : ∀ i : Nat, i < 7 → wv A came i = false) : ∀ (d c fu : Nat), c + d = 7 → d < fu → f_X3_choose_b12 best likely (nI A) lt wets host night wheels fu places length (nI came) l3 (nI c) = some (places, length) := by
  intro d
  induction d with
  | zero =>
    intro c fu h1 h2
    obtain ⟨fu, rfl⟩ : ∃ k, fu = k + 1 := ⟨fu - 1, by omega⟩
    rw [f_X3_choose_b12, show c = 7 by omega, if_pos (show (7 : Int32) ≤ nI 7 by decide)]
  | succ d ih =>
    intro c fu h1 h2
    obtain ⟨fu, rfl⟩ : ∃ k, fu = k + 1 := ⟨fu - 1, by omega⟩
    rw [f_X3_choose_b12, if_neg (show ¬ (7 : Int32) ≤ nI c from nI_ge (b := 7) (by omega) (by decide)), q_letsBehind hW hh hnt ht hwh hT hc, b_some]
    refine Eq.trans (q_idle30 (f_X3_choose_b12 best likely (nI A) lt wets host night wheels fu) hA hc hno 7 0 s_fuel (by omega) (by unfold s_fuel; omega)) ?_
    rw [show nI c + (1 : Int32) = nI (c + 1) from na_add c 1]
    exact ih (c + 1) fu (by omega) (by omega)
/-- the first who may come now -/
theorem q_pick30 {came c sure Let x k : Nat} {places : Nat → Int32} {length : Int32} (k12 : (Nat → Int32) → Int32 → Int32 → Int32 → Int32 → Option ((Nat → Int32) × Int32)) (hA : A < 128) (hc : came < 128) (hsub : sub7 came A) (hTb : Tb (qO m t T) A best 0) (hlk : ∀ j : Nat, A.testBit j = true → likely j = lkO m j) (hpc : pc7 came = c) (hk : cntb (wv A came) 7 = k + 1) (hc7 : c < 7) (hsu : sure ≤ 7) (hLe : Let ≤ 100) (hx : x < 7) (hxw : wv A came x = true) (hxn : Let - sure ≤ qO m t T x c + Mx (qO m t T) k (er (wv A came) x) (c + 1)) (hmin : ∀ i : Nat, i < x → wv A came i = true → ¬ Let - sure ≤ qO m t T i c + Mx (qO m t T) k (er (wv A came) i) (c + 1)) : ∀ (d i fu : Nat), i + d = x → d < fu → f_X3_choose_b30 k12 best likely (nI A) (nI Let) wets host night wheels fu places length (nI came) (nI sure) (nI c) (psO m t T c) (nI i) = k12 (upd places c (nI x)) (nI (c + 1)) (nI (came ||| 2 ^ x)) (nI (sure + qO m t T x c)) (nI (c + 1)) := by
  have hg : ∀ i : Nat, i < 7 → wv A came i = true → f_X3_gain best likely (nI i) (nI came) (psO m t T c) = some (nI (qO m t T i c + Mx (qO m t T) k (er (wv A came) i) (c + 1))) := fun i hi hw => by
    have h := q_gainW hTb (Nat.zero_le _) hlk hc hsub hi hw
    rw [hpc] at h
    unfold Mw at h
    rw [er_cnt hw hi hk] at h
    exact h
  have bg : ∀ i : Nat, qO m t T i c + Mx (qO m t T) k (er (wv A came) i) (c + 1) ≤ 1 + k := fun i => by
    have h1 := qO_le m t T i c
    have h2 := Mx_le (qO_le m t T) k (er (wv A came) i) (c + 1)
    omega
  have hk7 := cntb_le (wv A came) 7
  intro d
  induction d with
  | zero =>
    intro i fu h1 h2
    obtain ⟨fu, rfl⟩ : ∃ k, fu = k + 1 := ⟨fu - 1, by omega⟩
    have e : i = x := by omega
    subst e
    have b1 := bg i
    have hset := bt_set ⟨came, hc⟩ ⟨i, hx⟩
    dsimp only at hset
    obtain ⟨hAx, -⟩ := wv_t hxw
    have hb80 : ∀ l3 : Int32, f_X3_choose_b80 k12 best likely (nI A) (nI Let) wets host night wheels places length (nI came) l3 (nI c) (nI i) = k12 (upd places c (nI i)) (nI (c + 1)) (nI (came ||| 2 ^ i)) l3 (nI (c + 1)) := fun l3 => by
      unfold f_X3_choose_b80 f_X3_choose_b113
      rw [if_pos (nI_in hc7 (by decide)), nI_clamp (by omega), hset, show nI c + (1 : Int32) = nI (c + 1) from na_add c 1]
    rw [f_X3_choose_b30, if_neg (show ¬ (7 : Int32) ≤ nI i from nI_ge (b := 7) hx (by decide)), q_waits hA hc hx, b_some, hxw, if_neg bi_t, hg i hx hxw, b_some, na_add, if_neg (nI_nlt (by omega) (by omega)), if_pos (nI_in hx (by decide)), nI_clamp (by omega), hlk i hAx, hb80, hb80, show nI sure + (1 : Int32) = nI (sure + 1) from na_add sure 1]
    by_cases z : psO m t T c < lkO m i
    · rw [if_pos z, show qO m t T i c = 0 from if_pos z] <;> rfl
    · rw [if_neg z, show qO m t T i c = 1 from if_neg z]
  | succ d ih =>
    intro i fu h1 h2
    obtain ⟨fu, rfl⟩ : ∃ k, fu = k + 1 := ⟨fu - 1, by omega⟩
    have h := ih (i + 1) fu (by omega) (by omega)
    have b1 := bg i
    rw [f_X3_choose_b30, if_neg (show ¬ (7 : Int32) ≤ nI i from nI_ge (b := 7) (by omega) (by decide)), q_waits hA hc (by omega), b_some]
    unfold f_X3_choose_b107
    rw [show nI i + (1 : Int32) = nI (i + 1) from na_add i 1]
    cases hw : wv A came i with
    | false => rw [if_pos bi_f]; exact h
    | true =>
      have hm := hmin i (by omega) hw
      rw [if_neg bi_t, hg i (by omega) hw, b_some, na_add, if_pos (nI_lt (by omega) (by omega))]; exact h
theorem q_choose {Let N : Nat} (hW : GW wets m) (hh : host = m 23) (hnt : night = nI t) (ht : t < 2 ^ 31) (hwh : wheels = nI T) (hT : T ≤ 99) (hA : A < 128) (hTb : Tb (qO m t T) A best 0) (hlk : ∀ j : Nat, A.testBit j = true → likely j = lkO m j) (hLe : Let ≤ 100) (hN : N ≤ 7) : ∀ (k c came sure fu : Nat) (places : Nat → Int32) (o : Nat → Nat), c + k = N → 7 - c < fu → cntb (wv A came) 7 = k → pc7 came = c → came < 128 → sub7 came A → sure ≤ c → Grd (qO m t T) k (wv A came) c (Let - sure) o → ∃ places' : Nat → Int32, f_X3_choose_b12 best likely (nI A) (nI Let) wets host night wheels fu places (nI c) (nI came) (nI sure) (nI c) = some (places', nI N) ∧ (∀ a : Nat, a < k → places' (c + a) = nI (o a)) ∧ ∀ j : Nat, j < c → places' j = places j := by
  intro k
  induction k with
  | zero =>
    intro c came sure fu places o h1 h2 h3 h4 h5 h6 h7 h8
    have e : c = N := by omega
    subst e
    exact ⟨places, q_idle12 hW hh hnt ht hwh hT hA h5 (fun i hi => cntb_zero h3 hi) (7 - c) c fu (by omega) h2, fun a ha => by omega, fun _ _ => rfl⟩
  | succ k ih =>
    intro c came sure fu places o h1 h2 h3 h4 h5 h6 h7 h8
    obtain ⟨fu, rfl⟩ : ∃ k, fu = k + 1 := ⟨fu - 1, by omega⟩
    obtain ⟨g1, g2, g3, g4, g5⟩ := h8
    obtain ⟨hAx, hbx⟩ := wv_t g2
    have hlt := (bt_setn ⟨came, h5⟩ ⟨o 0, g1⟩).1
    have hnx := bt_next ⟨came, h5⟩ ⟨o 0, g1⟩
    dsimp only at hlt hnx
    obtain ⟨n1, -⟩ := hnx hbx
    have hq := qO_le m t T (o 0) c
    rw [Nat.sub_sub, ← wv_next] at g5
    obtain ⟨places', e1, e2, e3⟩ := ih (c + 1) (came ||| 2 ^ o 0) (sure + qO m t T (o 0) c) fu (upd places c (nI (o 0))) (fun a => o (a + 1)) (by omega) (by omega) (by rw [wv_next]; exact er_cnt g2 g1 h3) (by rw [n1, h4]) hlt (sub_next h6 hAx) (by omega) g5
    refine ⟨places', ?_, fun a ha => ?_, fun j hj => ?_⟩
    · have hl := q_letsBehind (s := came) hW hh hnt ht hwh hT h5
      rw [h4] at hl
      rw [f_X3_choose_b12, if_neg (show ¬ (7 : Int32) ≤ nI c from nI_ge (b := 7) (by omega) (by decide)), hl, b_some]
      exact (q_pick30 _ hA h5 h6 hTb hlk h4 h3 (by omega) (by omega) hLe g1 g2 g3 g4 (o 0) 0 s_fuel (by omega) (by unfold s_fuel; omega)).trans e1
    · cases a with
      | zero => rw [Nat.add_zero, e3 c (by omega), up_same]
      | succ a =>
        have := e2 a (by omega)
        rw [show c + 1 + a = c + (a + 1) by omega] at this
        exact this
    · rw [e3 j (by omega), up_ne _ _ (by omega)]
end QOC
