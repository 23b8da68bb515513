theorem CR.dawn {wets gc m : Nat → Int32} {gn host rooms night wheels turned : Int32} {s : Nat} (h : CR wets gc gn host rooms night wheels turned m) (e22 : m 22 = nI s) (hs : s < 20000) : CR wets gc gn host rooms (night + 1) 0 turned (upd (upd m 22 (m 22 + 1)) 20 0) := by
  obtain ⟨a1, a2, a3, a4, a5, a6, b1, b2, b3, b4, b5, b6, hW, hG⟩ := h
  have e : ∀ k : Nat, k ≠ 22 → k ≠ 20 → upd (upd m 22 (m 22 + 1)) 20 0 k = m k := fun k h1 h2 => by rw [up_ne _ _ h2, up_ne _ _ h1]
  have f22 : upd (upd m 22 (m 22 + 1)) 20 0 22 = nI (s + 1) := by rw [up_ne _ _ (by decide), up_same, e22]; exact na_add s 1
  have f20 : upd (upd m 22 (m 22 + 1)) 20 0 20 = 0 := up_same _ _ _
  generalize upd (upd m 22 (m 22 + 1)) 20 0 = m' at e f22 f20 ⊢
  unfold CR
  rw [e 0 (by decide) (by decide), e 23 (by decide) (by decide), e 24 (by decide) (by decide), f22, f20, e 21 (by decide) (by decide)]
  exact ⟨a1, a2, a3, by rw [a4, e22]; exact na_add s 1, rfl, a6, b1, b2, b3, ⟨by rw [nI_toInt (by omega)]; omega, by rw [nI_toInt (by omega)]; omega⟩, rz (by decide), b6, hW.congr (fun k hk => e k (by omega) (by omega)), hG.congr b1 (fun k hk => e k (by omega) (by omega))⟩
section QDE
variable {wets m r sc rc kc pc xw xg xs xr xk xp : Nat → Int32} {gn sn rn kn pn host rooms bads xgn xsn xrn xkn xpn x1 x2 x3 x4 x5 : Int32} {n D : Nat}
set_option maxHeartbeats 2000000 in
theorem q_decades (hm : m 0 = nI n) (hn : n ≤ 7) (hD : D ≤ 60) : ∀ (d k fu : Nat) (x : Int64) (gc h : Nat → Int32) (night wheels turned : Int32) (s : Nat), k + d = D → d < fu → CR wets gc gn host rooms night wheels turned h → h 0 = nI n → h 22 = nI s → s ≤ 9999 + k → ∃ (v : Int32) (gc' h' : Nat → Int32) (n' w' t' : Int32), f_X8_decades_b43 xw xg xgn xs xsn xr xrn xk xkn xp xpn x1 x2 x3 x4 x5 fu wets gc gn sc sn rc rn kc kn pc pn host rooms night wheels turned bads (nI D) x (nI k) = some (v, wets, gc', gn, sc, sn, rc, rn, kc, kn, pc, pn, host, rooms, n', w', t', bads) ∧ f_X9_decades_b41 m fu r h (nI D) x (nI k) = some (v, r, h') := by
  intro d
  induction d with
  | zero =>
    intro k fu x gc h night wheels turned s h1 h2 hC h0 h22 hs
    obtain ⟨fu, rfl⟩ : ∃ k, fu = k + 1 := ⟨fu - 1, by omega⟩
    have hG := hC.2.2.2.2.2.2.2.2.2.2.2.2.2
    obtain ⟨I, hI, eI⟩ := hG.ins
    have hb := bt_bits ⟨I, hI⟩
    dsimp only at hb
    refine ⟨nI (pcount (h 19)), gc, h, night, wheels, turned, ?_, ?_⟩
    · rw [f_X8_decades_b43, if_pos (nI_le (by omega) (by omega)), q_howMany hG (hC.1.trans h0) h0 hn, b_some]
    · rw [f_X9_decades_b41, if_pos (nI_le (by omega) (by omega)), show Int32.toNatClampNeg 19 = 19 from rfl, eI, hb, b_some]
  | succ d ih =>
    intro k fu x gc h night wheels turned s h1 h2 hC h0 h22 hs
    obtain ⟨fu, rfl⟩ : ∃ k, fu = k + 1 := ⟨fu - 1, by omega⟩
    have hC' := hC
    obtain ⟨a1, a2, a3, a4, a5, a6, b1, b2, b3, b4, b5, b6, hW, hG⟩ := hC'
    obtain ⟨I, hI, eI⟩ := hG.ins
    rw [f_X8_decades_b43, if_neg (nI_ge (by omega) (by omega)), f_X9_decades_b41, if_neg (nI_ge (by omega) (by omega)), show nI k + (1 : Int32) = nI (k + 1) from na_add k 1]
    generalize (((x * (1103515245 : Int64)) + (12345 : Int64)) - ((x * (1103515245 : Int64)) + (12345 : Int64)) / (2147483648 : Int64) * (2147483648 : Int64)) = x'
    generalize (Int64.toInt32 ((x' / (65536 : Int64)) - (x' / (65536 : Int64)) / (8 : Int64) * (8 : Int64))) = y
    unfold f_X1_happen f_X9_decades_b149
    rw [show nI k + (1 : Int32) = nI (k + 1) from na_add k 1, q_there, b_some, q_one9, b_some]
    by_cases c1 : ib y 0 (gn - 1) = 0
    · obtain ⟨v, gc', h', n', w', t', e1, e2⟩ := ih (k + 1) fu x' gc _ (night + 1) 0 turned (s + 1) (by omega) (by omega) (hC.dawn h22 (by omega)) (by rw [up_ne _ _ (by decide), up_ne _ _ (by decide)]; exact h0) (by rw [up_ne _ _ (by decide), up_same, h22]; exact na_add s 1) (by omega)
      refine ⟨v, gc', h', n', w', t', ?_, ?_⟩
      · rw [if_pos c1, b_some]; exact e1
      · rw [if_pos (by rw [hm, ← h0, ← a1]; exact c1)]; exact e2
    · have c9 : ¬ ib y 0 (m 0 - 1) = 0 := by rw [hm, ← h0, ← a1]; exact c1
      obtain ⟨i, hi, rfl⟩ := q_num (a1.trans h0) hn c1
      have hhas : f_X9_has (h (Int32.toNatClampNeg 19)) (nI i) = some (btn (h 19) i) := by
        show f_X9_has (h 19) (nI i) = _
        rw [eI]; exact bt_has ⟨I, hI⟩ ⟨i, by omega⟩
      rw [if_neg c1, if_neg c9, q_isIn hG (a1.trans h0) h0 hn hi, b_some, hhas, b_some]
      rcases btn01 (h 19) i with q | q
      · obtain ⟨b, gc1, wh1, tu1, m1, k1, k2, k3, k4, k5⟩ := CR.come (N := 38) (by decide) (by decide) hC h0 hn hi q
        obtain ⟨v, gc', h', n', w', t', e1, e2⟩ := ih (k + 1) fu x' gc1 m1 night wh1 tu1 s (by omega) (by omega) k3 (by rw [k4 0 (by decide) (by decide) (by decide) (by omega)]; exact h0) (by rw [k4 22 (by decide) (by decide) (by decide) (by omega)]; exact h22) (by omega)
        refine ⟨v, gc', h', n', w', t', ?_, ?_⟩
        · rw [if_pos q, k1, b_some, b_some]; exact e1
        · rw [if_pos q, k2, b_some]; exact e2
      · have hL := CR.leave hC h0 hn hi eI hI
        have hset : (h 19 &&& (((1 : Int32) <<< (nI i &&& 31)) ^^^ (-1 : Int32))) = nI (I &&& (127 - 2 ^ i)) := by rw [eI]; exact bt_clr ⟨I, hI⟩ ⟨i, by omega⟩
        obtain ⟨v, gc', h', n', w', t', e1, e2⟩ := ih (k + 1) fu x' _ _ night wheels turned s (by omega) (by omega) hL (by rw [up_ne _ _ (by decide)]; exact h0) (by rw [up_ne _ _ (by decide)]; exact h22) (by omega)
        refine ⟨v, gc', h', n', w', t', ?_, ?_⟩
        · rw [if_neg (by rw [q]; decide), q_leave _ (a1.trans h0) hn hi, b_some, b_some]; exact e1
        · rw [if_neg (by rw [q]; decide), show Int32.toNatClampNeg 19 = 19 from rfl, hset]; exact e2
end QDE
