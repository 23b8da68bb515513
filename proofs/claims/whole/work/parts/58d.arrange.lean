def mn (f s : Nat) : Nat := if s < f then s else f
theorem wt_bit {n I : Nat} (j : Nat) : (msk (wt n I) n).testBit j = wt n I j := by
  by_cases h : j < n
  · exact msk_bit _ n j h
  · have e : wt n I j = false := by unfold wt; rw [decide_eq_false h, Bool.false_and]
    rw [e]
    exact Nat.testBit_lt_two_pow (Nat.lt_of_lt_of_le (msk_lt (wt n I) n) (Nat.pow_le_pow_right (by decide) (by omega)))
theorem wt_lt {n I : Nat} (hn : n ≤ 7) : msk (wt n I) n < 128 := Nat.lt_of_lt_of_le (msk_lt (wt n I) n) (show 2 ^ n ≤ 2 ^ 7 from Nat.pow_le_pow_right (by decide) hn)
theorem wt_wv (n I : Nat) : wv (msk (wt n I) n) 0 = wt n I := by
  funext j
  unfold wv
  rw [wt_bit, Nat.zero_testBit]
  cases wt n I j <;> rfl
theorem wt_in {n I x : Nat} (h : wt n I x = true) : x < n ∧ I.testBit x = false := by
  unfold wt at h
  by_cases e : x < n
  · refine ⟨e, ?_⟩
    cases z : I.testBit x with
    | false => rfl
    | true => rw [z, decide_eq_true e] at h; exact absurd h (by decide)
  · rw [decide_eq_false e, Bool.false_and] at h; exact absurd h (by decide)
section QAR
variable {wets gc m likely : Nat → Int32} {gn host rooms night wheels : Int32} {n t T A N Let Ro : Nat} {o : Nat → Nat}
theorem q_b64 (hW : GW wets m) (hG : GG gc m) (hg : gn = nI n) (hm : m 0 = nI n) (hn : n ≤ 7) (hh : host = m 23) (hnt : night = nI t) (ht : t < 2 ^ 31) (hwh : wheels = nI T) (hT : T ≤ 99) (hr : rooms = m 24) (hRo : m 24 = nI Ro) (hRo7 : Ro ≤ 7) (hP : pcount (m 19) ≤ Ro) (hA : A < 128) (hlk : ∀ j : Nat, A.testBit j = true → likely j = lkO m j) (hLet : Let = mn (Ro - pcount (m 19)) (Mw (qO m t T) (wv A 0) 0)) (hN : cntb (wv A 0) 7 = N) (hGrd : Grd (qO m t T) N (wv A 0) 0 Let o) : ∀ (s fu : Nat) (best places : Nat → Int32) (length lt : Int32), s ≤ 128 → s < fu → Tb (qO m t T) A best s → ∃ best' places' : Nat → Int32, f_X3_arrange_b64 wets gc gn host rooms night wheels fu best likely places (nI A) length lt (nI s - 1) = some (best', likely, places', nI A, nI N, nI Let) ∧ ∀ a : Nat, a < N → places' a = nI (o a) := by
  have hN7 : N ≤ 7 := by rw [← hN]; exact cntb_le _ _
  have hB := Mw_le (qO_le m t T) (wv A 0) 0
  have hLe : Let ≤ 100 := by rw [hLet]; unfold mn; split <;> omega
  intro s
  induction s with
  | zero =>
    intro fu best places length lt h1 h2 hTb
    obtain ⟨fu, rfl⟩ : ∃ k, fu = k + 1 := ⟨fu - 1, by omega⟩
    have hs0 : sub7 0 A := fun i hi => by rw [Nat.zero_testBit] at hi; exact absurd hi (by decide)
    have hb0 : best 0 = nI (Mw (qO m t T) (wv A 0) 0) := hTb 0 (Nat.le_refl 0) (by decide) hs0
    have hl : (if best 0 < (rooms - nI (pcount (m 19))) then best 0 else (rooms - nI (pcount (m 19)))) = nI Let := by
      rw [hb0, hr, hRo, na_sub hP, hLet]
      unfold mn
      by_cases z : Mw (qO m t T) (wv A 0) 0 < Ro - pcount (m 19)
      · rw [if_pos (nI_lt z (by omega)), if_pos z]
      · rw [if_neg (nI_nlt (by omega) (by omega)), if_neg z]
    obtain ⟨places', e1, e2, -⟩ := q_choose (best := best) (likely := likely) (Let := Let) (N := N) hW hh hnt ht hwh hT hA hTb hlk hLe hN7 N 0 0 0 s_fuel places o (by omega) (by unfold s_fuel; omega) hN (by decide) (by decide) hs0 (Nat.le_refl 0) hGrd
    have e1' : f_X3_choose best likely (nI A) (nI Let) wets host night wheels places length = some (places', nI N) := e1
    refine ⟨best, places', ?_, fun a ha => ?_⟩
    · rw [f_X3_arrange_b64, if_pos (show nI 0 - 1 < (0 : Int32) by decide), q_howMany hG hg hm hn, b_some, show Int32.toNatClampNeg 0 = 0 from rfl, hl, e1', b_some]
    · have := e2 a ha
      rw [Nat.zero_add] at this; exact this
  | succ s ih =>
    intro fu best places length lt h1 h2 hTb
    obtain ⟨fu, rfl⟩ : ∃ k, fu = k + 1 := ⟨fu - 1, by omega⟩
    have hal := ann_lt (A := s) (s := A) (by omega)
    have go : ∀ best1 : Nat → Int32, Tb (qO m t T) A best1 s → ∃ best' places' : Nat → Int32, f_X3_arrange_b91 (f_X3_arrange_b64 wets gc gn host rooms night wheels fu) wets gc gn host rooms night wheels best1 likely places (nI A) length lt (nI s) = some (best', likely, places', nI A, nI N, nI Let) ∧ ∀ a : Nat, a < N → places' a = nI (o a) := fun best1 hb => by
      obtain ⟨best', places', e1, e2⟩ := ih fu best1 places length lt (by omega) (by omega) hb
      refine ⟨best', places', ?_, e2⟩
      unfold f_X3_arrange_b91
      rw [← Int32.sub_eq_add_neg]; exact e1
    rw [f_X3_arrange_b64, nI_pred, if_neg (nI_pos (by omega)), q_andn (A := s) (s := A) hA]
    by_cases z : ann s A = 0
    · have hsub := ann_sub (by omega) hA z
      rw [if_pos (show nI (ann s A) = (0 : Int32) from congrArg nI z), q_mostBehind hA hW hh hnt ht hwh hT hTb hlk (by omega) hsub, b_some, if_pos (nI_in (show s < 128 by omega) (by decide)), nI_clamp (by omega)]
      refine go _ fun s' l1 l2 l3 => ?_
      by_cases e : s' = s
      · subst e; exact up_same _ _ _
      · rw [up_ne _ _ e]; exact hTb s' (by omega) l2 l3
    · rw [if_neg (fun q => by exact z ((nI_eq (by omega) (by decide)).mp (show nI (ann s A) = nI 0 from q)))]
      refine go best fun s' l1 l2 l3 => ?_
      by_cases e : s' = s
      · subst e; exact absurd (sub_ann l2 hA l3) z
      · exact hTb s' (by omega) l2 l3
theorem q_b7 {I : Nat} {best places : Nat → Int32} {length lt : Int32} (hG : GG gc m) (hg : gn = nI n) (hm : m 0 = nI n) (hn : n ≤ 7) (hn22 : night = m 22) (hI : m 19 = nI I) (hI7 : I < 128) : ∀ (d i fu : Nat) (likely : Nat → Int32), i + d = n → d < fu → (∀ j : Nat, j < i → likely j = lkO m j) → ∃ likely' : Nat → Int32, f_X3_arrange_b7 wets gc gn host rooms night wheels fu best likely places (nI (msk (wt n I) i)) length lt (nI i) = f_X3_arrange_b61 wets gc gn host rooms night wheels best likely' places (nI (msk (wt n I) n)) length lt ∧ ∀ j : Nat, j < n → likely' j = lkO m j := by
  intro d
  induction d with
  | zero =>
    intro i fu likely h1 h2 h3
    obtain ⟨fu, rfl⟩ : ∃ k, fu = k + 1 := ⟨fu - 1, by omega⟩
    have e : i = n := by omega
    subst e
    exact ⟨likely, by rw [f_X3_arrange_b7, hg, if_pos (nI_le (by omega) (by omega))], h3⟩
  | succ d ih =>
    intro i fu likely h1 h2 h3
    obtain ⟨fu, rfl⟩ : ∃ k, fu = k + 1 := ⟨fu - 1, by omega⟩
    have hb : btn (m 19) i = if I.testBit i then 1 else 0 := by rw [hI, btn_nI i (by omega)]
    obtain ⟨likely', e1, e2⟩ := ih (i + 1) fu (upd likely i (lkO m i)) (by omega) (by omega) (fun j hj => by
      by_cases e : j = i
      · subst e; exact up_same _ _ _
      · rw [up_ne _ _ e]; exact h3 j (by omega))
    refine ⟨likely', ?_, e2⟩
    have hlk : f_X1_likelyNow gc gn night (nI i) = some (lkO m i) := q_likelyNow hG hg hm hn (by omega) night hn22
    rw [f_X3_arrange_b7, if_neg (by rw [hg]; exact nI_ge (by omega) (by omega)), if_neg (show ¬ (7 : Int32) ≤ nI i from nI_ge (b := 7) (by omega) (by decide)), hlk, b_some, if_pos (nI_in (show i < 7 by omega) (by decide)), q_isIn hG hg hm hn (by omega), b_some, nI_clamp (by omega), hb]
    unfold f_X3_arrange_b55
    rw [show nI i + (1 : Int32) = nI (i + 1) from na_add i 1]
    cases z : I.testBit i with
    | false =>
      have hw : wt n I i = true := by unfold wt; rw [z, decide_eq_true (show i < n by omega)] <;> rfl
      rw [if_neg (show ¬ (false = true) by decide), if_pos rfl, msk_t (by omega) hw]; exact e1
    | true =>
      have hw : wt n I i = false := by unfold wt; rw [z]; exact Bool.and_false _
      rw [if_pos (rfl : true = true), if_neg no10, msk_f hw]; exact e1
theorem q_arrange {I : Nat} {best likely0 places : Nat → Int32} {all0 length lt : Int32} (hW : GW wets m) (hG : GG gc m) (hg : gn = nI n) (hm : m 0 = nI n) (hn : n ≤ 7) (hh : host = m 23) (hn22 : night = m 22) (h22 : m 22 = nI t) (ht : t < 2 ^ 31) (hwh : wheels = nI T) (hT : T ≤ 99) (hr : rooms = m 24) (hRo : m 24 = nI Ro) (hRo7 : Ro ≤ 7) (hP : pcount (m 19) ≤ Ro) (hI : m 19 = nI I) (hI7 : I < 128) (hLet : Let = mn (Ro - pcount (m 19)) (Mw (qO m t T) (wt n I) 0)) (hN : cntb (wt n I) 7 = N) (hGrd : Grd (qO m t T) N (wt n I) 0 Let o) : ∃ best' likely' places' : Nat → Int32, f_X3_arrange wets gc gn host rooms night wheels best likely0 places all0 length lt = some (best', likely', places', nI (msk (wt n I) n), nI N, nI Let) ∧ ∀ a : Nat, a < N → places' a = nI (o a) := by
  obtain ⟨likely', e1, e2⟩ := q_b7 (wets := wets) (host := host) (rooms := rooms) (wheels := wheels) (best := best) (places := places) (length := length) (lt := lt) hG hg hm hn hn22 hI hI7 n 0 s_fuel likely0 (by omega) (by unfold s_fuel; omega) (fun j hj => by omega)
  obtain ⟨best', places', e3, e4⟩ := q_b64 (likely := likely') (A := msk (wt n I) n) (Let := Let) (N := N) (o := o) hW hG hg hm hn hh (hn22.trans h22) ht hwh hT hr hRo hRo7 hP (wt_lt hn) (fun j hj => e2 j (by rw [wt_bit] at hj; exact (wt_in hj).1)) (by rw [wt_wv]; exact hLet) (by rw [wt_wv]; exact hN) (by rw [wt_wv]; exact hGrd) 128 s_fuel best places length lt (Nat.le_refl _) (by unfold s_fuel; omega) (fun s l1 l2 _ => by omega)
  exact ⟨best', likely', places', e1.trans e3, e4⟩
end QAR
