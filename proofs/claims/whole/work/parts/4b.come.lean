theorem mo {x : Int32} {h : Nat} (hx : rg x 0 h) (hh : h < 10000) : (if x + 1 < nI h then x + 1 else nI h) = (if nI h ≤ x then nI h else x + 1) ∧ rg (if nI h ≤ x then nI h else x + 1) 0 h := by
  obtain ⟨n, hn, rfl⟩ := rg_nI hx (by omega)
  rw [show nI n + 1 = nI (n + 1) from na_add n 1]
  by_cases e : n < h
  · rw [if_neg (show ¬ nI h ≤ nI n from nI_ge e (by omega))]
    refine ⟨?_, by rw [nI_toInt (by omega)]; omega, by rw [nI_toInt (by omega)]; omega⟩
    by_cases e2 : n + 1 < h
    · rw [if_pos (nI_lt e2 (by omega))]
    · rw [if_neg (nI_nlt (by omega) (by omega)), show h = n + 1 by omega]
  · rw [if_pos (nI_le (by omega) (by omega)), if_neg (nI_nlt (by omega) (by omega))]
    exact ⟨rfl, by rw [nI_toInt (by omega)]; omega, by rw [nI_toInt (by omega)]; omega⟩
/-- one more, but no more than so many -/
def mor (x : Int32) (h : Nat) : Int32 := if nI h ≤ x then nI h else x + 1
theorem q_more (x : Int32) (h : Nat) : f_X9_more x (nI h) = some (mor x h) := by
  unfold f_X9_more mor; split <;> rfl
theorem bt_setn : ∀ I : Fin 128, ∀ i : Fin 7, I.val ||| 2 ^ i.val < 128 ∧ (I.val.testBit i.val = false → pcount (nI (I.val ||| 2 ^ i.val)) = pcount (nI I.val) + 1) := by decide +kernel
theorem bt_clrn : ∀ I : Fin 128, ∀ i : Fin 7, I.val &&& (127 - 2 ^ i.val) < 128 ∧ pcount (nI (I.val &&& (127 - 2 ^ i.val))) ≤ pcount (nI I.val) := by decide +kernel
theorem bt_gets : ∀ I : Fin 128, ∀ i : Fin 7, ∀ j : Fin 7, (I.val ||| 2 ^ i.val).testBit j.val = (I.val.testBit j.val || decide (i.val = j.val)) := by decide +kernel
theorem bt_getc : ∀ I : Fin 128, ∀ i : Fin 7, ∀ j : Fin 7, (I.val &&& (127 - 2 ^ i.val)).testBit j.val = (I.val.testBit j.val && !decide (i.val = j.val)) := by decide +kernel
theorem tb_big {I j : Nat} (hI : I < 128) (hj : 7 ≤ j) : I.testBit j = false := Nat.testBit_lt_two_pow (Nat.lt_of_lt_of_le hI (show 2 ^ 7 ≤ 2 ^ j from Nat.pow_le_pow_right (by decide) hj))
theorem btn_nI {I : Nat} (j : Nat) (hI : I < 2 ^ 31) : btn (nI I) j = if I.testBit j then 1 else 0 := by unfold btn; rw [nI_clamp hI]
section QD
variable {wets gc m : Nat → Int32} {gn host rooms night wheels turned : Int32} {n i : Nat}
/-- COMING: both do the same -/
theorem CR.come {N : Nat} (hN : 38 ≤ N) (hN2 : N < 1000) (h : CR wets gc gn host rooms night wheels turned m) (hm : m 0 = nI n) (hn : n ≤ 7) (hi : i < n) (hb : btn (m 19) i = 0) : ∃ (b : Int32) (gc' : Nat → Int32) (wheels' turned' : Int32) (m' : Nat → Int32), f_X1_arrive wets gn host rooms night gc wheels turned (nI i) = some (b, gc', wheels', turned') ∧ f_X9_goCome N m (nI i) = some (b, m') ∧ CR wets gc' gn host rooms night wheels' turned' m' ∧ (∀ k : Nat, k ≠ 19 → k ≠ 20 → k ≠ 21 → k ≠ 12 + i → m' k = m k) ∧ (b = 0 ∨ b = 1) := by
  have hC := h
  obtain ⟨a1, a2, a3, a4, a5, a6, b1, b2, b3, b4, b5, b6, hW, hG⟩ := h
  obtain ⟨t, ht, et⟩ := rg_nI (h := 20000) b4 (by decide)
  obtain ⟨I, hI, eI⟩ := hG.ins
  have hw := mo (h := 99) b5 (by decide)
  have hl : f_X9_letsIn N m (nI i) = some (op m i (m (25 + t % 6))) := by
    rw [q_letsIn9 hN hN2 eI hI et (by omega) (by omega), hb, if_neg (by decide)]
  have hop : f_X1_opensTo gc gn host rooms night wheels (nI i) (m (25 + t % 6)) = some (op m i (m (25 + t % 6))) := q_opensTo hC hm hi hn _
  have g20 : ∀ {P Q : Option (Int32 × (Nat → Int32))}, (if ¬ ((20 : Int32) < 0 ∨ N ≤ (Int32.toNatClampNeg 20)) then P else Q) = P := if_pos (nI_in (c := 20) (by omega) (by omega))
  have g21 : ∀ {P Q : Option (Int32 × (Nat → Int32))}, (if ¬ ((21 : Int32) < 0 ∨ N ≤ (Int32.toNatClampNeg 21)) then P else Q) = P := if_pos (nI_in (c := 21) (by omega) (by omega))
  have g19 : ∀ {P Q : Option (Int32 × (Nat → Int32))}, (if ¬ ((19 : Int32) < 0 ∨ N ≤ (Int32.toNatClampNeg 19)) then P else Q) = P := if_pos (nI_in (c := 19) (by omega) (by omega))
  have h20 : ∀ {P Q : Option (Int32 × (Nat → Int32))}, (if ¬ ((20 : Int32) < 0 ∨ N ≤ 20) then P else Q) = P := g20
  have h21 : ∀ {P Q : Option (Int32 × (Nat → Int32))}, (if ¬ ((21 : Int32) < 0 ∨ N ≤ 21) then P else Q) = P := g21
  have g12 : ∀ {P Q : Option (Int32 × (Nat → Int32))}, (if ¬ (nI (12 + i) < 0 ∨ N ≤ (Int32.toNatClampNeg (nI (12 + i)))) then P else Q) = P := if_pos (nI_in (by omega) (by omega))
  have e19 : Int32.toNatClampNeg 19 = 19 := rfl
  have e20 : Int32.toNatClampNeg 20 = 20 := rfl
  have e21 : Int32.toNatClampNeg 21 = 21 := rfl
  have b54 : ∀ (f : Nat → Int32) (q : Int32), (q = 0 ∨ q = 1) → f_X9_goCome_b54 N f q = some (q, upd f 20 (mor (f 20) 99)) := fun f q hq => by
    unfold f_X9_goCome_b54
    rw [g20, e20, show (99 : Int32) = nI 99 from rfl, q_more, b_some, h20]
    rcases hq with rfl | rfl
    · rfl
    · rfl
  have b68 : ∀ (gc' : Nat → Int32) (tu q : Int32), (q = 0 ∨ q = 1) → f_X1_arrive_b68 wets gn host rooms night gc' wheels tu q = some (q, gc', mor (m 20) 99, tu) := fun gc' tu q hq => by
    unfold f_X1_arrive_b68
    rw [if_pos hq, a5]
    exact congrArg (fun z => some (q, gc', z, tu)) hw.1
  rcases op01 m i (m (25 + t % 6)) with q | q
  · have ht2 := mo (h := 9999) b6 (by decide)
    refine ⟨0, gc, mor (m 20) 99, mor (m 21) 9999, upd (upd m 21 (mor (m 21) 9999)) 20 (mor (m 20) 99), ?_, ?_, ?_, fun k k1 k2 k3 k4 => by rw [up_ne _ _ k2, up_ne _ _ k3], Or.inl rfl⟩
    · unfold f_X1_arrive
      rw [q_wetNow hW (a4.trans et) (by omega), b_some, hop, q, b_some, if_pos rfl, a6]
      rw [show (if m 21 + 1 < (9999 : Int32) then m 21 + 1 else (9999 : Int32)) = mor (m 21) 9999 from ht2.1]
      exact b68 _ _ 0 (Or.inl rfl)
    · unfold f_X9_goCome
      rw [hl, q, b_some, if_pos rfl, g21, e21, show (9999 : Int32) = nI 9999 from rfl, q_more, b_some, h21, b54 _ 0 (Or.inl rfl), up_ne _ _ (show (20 : Nat) ≠ 21 by decide)]
    · have hk : ∀ k : Nat, k ≠ 20 → k ≠ 21 → upd (upd m 21 (mor (m 21) 9999)) 20 (mor (m 20) 99) k = m k := fun k k2 k3 => by rw [up_ne _ _ k2, up_ne _ _ k3]
      refine ⟨?_, ?_, ?_, ?_, ?_, ?_, ?_, ?_, ?_, ?_, ?_, ?_, hW.congr (fun k hq => hk k (by omega) (by omega)), hG.congr b1 (fun k hq => hk k (by omega) (by omega))⟩
      · rw [hk 0 (by decide) (by decide)]; exact a1
      · rw [hk 23 (by decide) (by decide)]; exact a2
      · rw [hk 24 (by decide) (by decide)]; exact a3
      · rw [hk 22 (by decide) (by decide)]; exact a4
      · rw [up_same]
      · rw [up_ne _ _ (show (21 : Nat) ≠ 20 by decide), up_same]
      · rw [hk 0 (by decide) (by decide)]; exact b1
      · rw [hk 23 (by decide) (by decide)]; exact b2
      · rw [hk 24 (by decide) (by decide)]; exact b3
      · rw [hk 22 (by decide) (by decide)]; exact b4
      · rw [up_same]; exact hw.2
      · rw [up_ne _ _ (show (21 : Nat) ≠ 20 by decide), up_same]; exact ht2.2
  · obtain ⟨s1, s2⟩ := bt_setn ⟨I, hI⟩ ⟨i, by omega⟩
    dsimp only at s1 s2
    have hbit : I.testBit i = false := by
      rw [eI, btn_nI i (by omega)] at hb
      cases hx : I.testBit i with
      | false => rfl
      | true => rw [hx, if_pos rfl] at hb; exact absurd hb (by decide)
    have hset : (m 19 ||| ((1 : Int32) <<< (nI i &&& 31))) = nI (I ||| 2 ^ i) := by rw [eI]; exact bt_set ⟨I, hI⟩ ⟨i, by omega⟩
    obtain ⟨l1, l2, l3, l4, l5, l6, l7⟩ := hG.2.2.2 i (by rw [hm, nI_toInt (by omega)]; omega)
    have hv := mo (h := 99) l7 (by decide)
    have hroom : ¬ m 24 ≤ nI (pcount (m 19)) := by
      intro hr; unfold op at q; rw [if_pos hr] at q; exact absurd q (by decide)
    have hpc : pcount (nI I) + 1 ≤ 7 := by
      have h7 : ∀ J : Fin 128, pcount (nI J.val) ≤ 7 := by decide +kernel
      have := h7 ⟨I ||| 2 ^ i, s1⟩
      rw [s2 hbit] at this
      exact this
    refine ⟨1, upd (upd gc (4 * i + 3) 1) (4 * i + 2) (mor (m (12 + i)) 99), mor (m 20) 99, turned, upd (upd (upd m 19 (nI (I ||| 2 ^ i))) (12 + i) (mor (m (12 + i)) 99)) 20 (mor (m 20) 99), ?_, ?_, ?_, fun k k1 k2 k3 k4 => by rw [up_ne _ _ k2, up_ne _ _ k4, up_ne _ _ k1], Or.inr rfl⟩
    · unfold f_X1_arrive
      rw [q_wetNow hW (a4.trans et) (by omega), b_some, hop, q, b_some, if_neg (by decide), gput3 gc 1 (a1.trans hm) hn hi, b_some, gcell2 _ (a1.trans hm) hn hi, b_some, up_ne _ _ (show 4 * i + 2 ≠ 4 * i + 3 by omega), l3, show (if m (12 + i) + 1 < (99 : Int32) then m (12 + i) + 1 else (99 : Int32)) = mor (m (12 + i)) 99 from hv.1, gput2 _ _ (a1.trans hm) hn hi, b_some]
      exact b68 _ _ 1 (Or.inr rfl)
    · unfold f_X9_goCome
      rw [hl, q, b_some, if_neg (by decide), g19, g19, show (12 : Int32) + nI i = nI (12 + i) from na_add 12 i, g12, e19, hset, nI_clamp (by omega), up_ne _ _ (show 12 + i ≠ 19 by omega), show (99 : Int32) = nI 99 from rfl, q_more, b_some]
      have g12' := @g12
      rw [nI_clamp (by omega)] at g12'
      rw [g12', b54 _ 1 (Or.inr rfl), up_ne _ _ (show (20 : Nat) ≠ 12 + i by omega), up_ne _ _ (show (20 : Nat) ≠ 19 by decide)]
    · have hk : ∀ k : Nat, k ≠ 19 → k ≠ 20 → k ≠ 12 + i → upd (upd (upd m 19 (nI (I ||| 2 ^ i))) (12 + i) (mor (m (12 + i)) 99)) 20 (mor (m 20) 99) k = m k := fun k k1 k2 k4 => by rw [up_ne _ _ k2, up_ne _ _ k4, up_ne _ _ k1]
      have k19 : upd (upd (upd m 19 (nI (I ||| 2 ^ i))) (12 + i) (mor (m (12 + i)) 99)) 20 (mor (m 20) 99) 19 = nI (I ||| 2 ^ i) := by rw [up_ne _ _ (by decide), up_ne _ _ (by omega), up_same]
      have k20 : upd (upd (upd m 19 (nI (I ||| 2 ^ i))) (12 + i) (mor (m (12 + i)) 99)) 20 (mor (m 20) 99) 20 = mor (m 20) 99 := up_same _ _ _
      have k12 : upd (upd (upd m 19 (nI (I ||| 2 ^ i))) (12 + i) (mor (m (12 + i)) 99)) 20 (mor (m 20) 99) (12 + i) = mor (m (12 + i)) 99 := by rw [up_ne _ _ (by omega), up_same]
      generalize upd (upd (upd m 19 (nI (I ||| 2 ^ i))) (12 + i) (mor (m (12 + i)) 99)) 20 (mor (m 20) 99) = m' at hk k19 k20 k12 ⊢
      refine ⟨?_, ?_, ?_, ?_, k20.symm, ?_, ?_, ?_, ?_, ?_, ?_, ?_, hW.congr (fun k hq => hk k (by omega) (by omega) (by omega)), ?_⟩
      · rw [hk 0 (by decide) (by decide) (by omega)]; exact a1
      · rw [hk 23 (by decide) (by decide) (by omega)]; exact a2
      · rw [hk 24 (by decide) (by decide) (by omega)]; exact a3
      · rw [hk 22 (by decide) (by decide) (by omega)]; exact a4
      · rw [hk 21 (by decide) (by decide) (by omega)]; exact a6
      · rw [hk 0 (by decide) (by decide) (by omega)]; exact b1
      · rw [hk 23 (by decide) (by decide) (by omega)]; exact b2
      · rw [hk 24 (by decide) (by decide) (by omega)]; exact b3
      · rw [hk 22 (by decide) (by decide) (by omega)]; exact b4
      · rw [k20]; exact hw.2
      · rw [hk 21 (by decide) (by decide) (by omega)]; exact b6
      · obtain ⟨h1, h2, h3, h4⟩ := hG
        unfold GG
        rw [hk 0 (by decide) (by decide) (by omega), hk 24 (by decide) (by decide) (by omega), k19, nI_clamp (by omega)]
        rw [eI, nI_clamp (by omega)] at h2
        rw [hm, nI_toInt (by omega)] at h2 h4 ⊢
        refine ⟨⟨by rw [nI_toInt (by omega)]; omega, by rw [nI_toInt (by omega)]; omega⟩, fun j hj => ?_, ?_, fun j hj => ?_⟩
        · by_cases hj7 : j < 7
          · have := bt_gets ⟨I, hI⟩ ⟨i, by omega⟩ ⟨j, hj7⟩
            dsimp only at this
            rw [this, h2 j hj, decide_eq_false (by omega)]; rfl
          · exact tb_big s1 (by omega)
        · rw [s2 hbit]
          have h9 : ¬ (m 24).toInt ≤ (nI (pcount (m 19))).toInt := fun z => hroom (Int32.le_iff_toInt_le.mpr z)
          rw [eI, nI_toInt (by omega)] at h9
          omega
        · have hgj := bt_gets ⟨I, hI⟩ ⟨i, by omega⟩ ⟨j, by omega⟩
          dsimp only at hgj
          obtain ⟨g1, g2, g3, g4, g5, g6, g7⟩ := h4 j hj
          rw [hk (31 + j) (by omega) (by omega) (by omega), hk (5 + j) (by omega) (by omega) (by omega), btn_nI j (by omega), hgj]
          by_cases e : j = i
          · subst e
            rw [k12, up_ne _ _ (show 4 * j ≠ 4 * j + 2 by omega), up_ne _ _ (show 4 * j ≠ 4 * j + 3 by omega), up_ne _ _ (show 4 * j + 1 ≠ 4 * j + 2 by omega), up_ne _ _ (show 4 * j + 1 ≠ 4 * j + 3 by omega), up_same, up_ne _ _ (show 4 * j + 3 ≠ 4 * j + 2 by omega), up_same, decide_eq_true rfl, Bool.or_true, if_pos rfl]
            exact ⟨g1, g2, rfl, rfl, g5, g6, hv.2⟩
          · rw [hk (12 + j) (by omega) (by omega) (by omega), up_ne _ _ (by omega), up_ne _ _ (by omega), up_ne _ _ (by omega), up_ne _ _ (by omega), up_ne _ _ (by omega), up_ne _ _ (by omega), up_ne _ _ (by omega), up_ne _ _ (by omega), decide_eq_false (by omega), Bool.or_false]
            rw [eI, btn_nI j (by omega)] at g4
            exact ⟨g1, g2, g3, g4, g5, g6, g7⟩
end QD
