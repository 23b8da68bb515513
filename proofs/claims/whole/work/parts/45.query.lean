theorem nat6 (t : Nat) : t % 6 < 6 := Nat.mod_lt _ (by decide)
theorem q_letsNow {wets m : Nat → Int32} {host night wheels : Int32} {t : Nat} (hW : GW wets m) (h1 : host = m 23) (h2 : night = nI t) (h3 : wheels = m 20) (ht : t < 2 ^ 31) : f_X1_letsNow wets host night wheels = some (ps (m 23) (m (25 + t % 6)) (m 20)) := by
  subst h1 h2 h3
  unfold f_X1_letsNow
  rw [q_wetOf wets ht, b_some, q_ps, b_some, (hW _ (nat6 t)).1]
theorem q_wetNow {wets m : Nat → Int32} {night : Int32} {t : Nat} (hW : GW wets m) (h2 : night = nI t) (ht : t < 2 ^ 31) : f_X1_wetNow wets night = some (m (25 + t % 6)) := by
  subst h2
  unfold f_X1_wetNow
  rw [q_wetOf wets ht, b_some, (hW _ (nat6 t)).1]
theorem q_standing {wets m : Nat → Int32} {gn sn rn kn pn host rooms night wheels turned : Int32} (h : G0 gn sn rn kn pn host rooms night wheels turned m) (hW : GW wets m) (p : Int32) (hp : (0 : Int32).toInt ≤ p.toInt ∧ p.toInt ≤ (5 : Int32).toInt) : ∃ v : Int32, f_X8_standing wets host rooms night wheels turned p = some v ∧ f_X9_toldNow m p = some v := by
  obtain ⟨a1, a2, a3, a4, a5, a6, a7, a8, a9, a10, b1, b2, b3, b4, b5, b6, b7, b8, b9, b10⟩ := h
  obtain ⟨t, ht, et⟩ := rg_nI (h := 9999) b8 (by decide)
  unfold f_X8_standing f_X9_toldNow
  by_cases e0 : p = 0
  · rw [if_pos e0, if_pos e0]; exact ⟨_, rfl, by rw [a6]; rfl⟩
  rw [if_neg e0, if_neg e0]
  by_cases e1 : p = 1
  · rw [if_pos e1, if_pos e1]; exact ⟨_, rfl, by rw [a7]; rfl⟩
  rw [if_neg e1, if_neg e1]
  by_cases e2 : p = 2
  · rw [if_pos e2, if_pos e2]; exact ⟨_, rfl, by rw [a9]; rfl⟩
  rw [if_neg e2, if_neg e2]
  by_cases e3 : p = 3
  · rw [if_pos e3, if_pos e3]; exact ⟨_, rfl, by rw [a10]; rfl⟩
  rw [if_neg e3, if_neg e3]
  by_cases e4 : p = 4
  · rw [if_pos e4, if_pos e4, q_letsNow hW a6 (a8.trans et) a9 (by omega), b_some, q_psNow9 m (by decide) (by decide) et (by omega), b_some]
    exact ⟨_, rfl, rfl⟩
  rw [if_neg e4, if_neg e4, q_wetNow hW (a8.trans et) (by omega), b_some, show (Int32.toNatClampNeg (22 : Int32)) = 22 from rfl, et, q_wetOf9 m (by decide) (by decide) (by omega), b_some]
  exact ⟨_, rfl, rfl⟩
/-- one who is there, as a number -/
theorem q_num {p g : Int32} {n : Nat} (hg : g = nI n) (hn : n ≤ 7) (h : ¬ ib p 0 (g - 1) = 0) : ∃ i : Nat, i < n ∧ p = nI i := by
  have hh := ibn h
  rw [show (0 : Int32).toInt = 0 from rfl] at hh
  obtain ⟨i, hi, rfl⟩ := nI_ex hh.1
  refine ⟨i, ?_, rfl⟩
  have h2 := hh.2
  rw [nI_toInt hi, hg] at h2
  rcases Nat.eq_zero_or_pos n with q | q
  · subst q
    rw [show (nI 0 - 1).toInt = -1 from rfl] at h2
    omega
  · rw [show (1 : Int32) = nI 1 from rfl, na_sub q, nI_toInt (by omega)] at h2
    omega
theorem ib_same {p a b : Int32} (h : a = b) : ib p 0 (a - 1) = ib p 0 (b - 1) := by rw [h]
theorem btn01 (x : Int32) (i : Nat) : btn x i = 0 ∨ btn x i = 1 := by
  unfold btn; split
  · exact Or.inr rfl
  · exact Or.inl rfl
section QG
variable {gc m : Nat → Int32} {gn : Int32} {n i : Nat}
theorem GG.ins (h : GG gc m) : ∃ I : Nat, I < 128 ∧ m 19 = nI I := by
  obtain ⟨I, hI, e⟩ := rg_nI (h := 127) h.1 (by decide)
  exact ⟨I, by omega, e⟩
theorem q_likelyNow (h : GG gc m) (hg : gn = nI n) (hm : m 0 = nI n) (hn : n ≤ 7) (hi : i < n) (night : Int32) (hnt : night = m 22) : f_X1_likelyNow gc gn night (nI i) = some (lk (m (31 + i)) (m (5 + i)) (m (12 + i)) (m 22)) := by
  obtain ⟨e1, e2, e3, -⟩ := h.2.2.2 i (by rw [hm, nI_toInt (by omega)]; omega)
  unfold f_X1_likelyNow
  rw [gcell0 gc hg hn hi, b_some, gcell1 gc hg hn hi, b_some, gcell2 gc hg hn hi, b_some, q_lk, b_some, e1, e2, e3, hnt]
theorem q_isIn (h : GG gc m) (hg : gn = nI n) (hm : m 0 = nI n) (hn : n ≤ 7) (hi : i < n) : f_X1_isIn gc gn (nI i) = some (btn (m 19) i) := by
  obtain ⟨-, -, -, e4, -⟩ := h.2.2.2 i (by rw [hm, nI_toInt (by omega)]; omega)
  unfold f_X1_isIn
  rw [gcell3 gc hg hn hi, b_some, e4]
  rcases btn01 (m 19) i with q | q <;> rw [q] <;> rfl
theorem GG.sum (h : GG gc m) (hm : m 0 = nI n) (hn : n ≤ 7) : isum (fun i => gc (i * 4 + 3)) n = nI (pcount (m 19)) := by
  obtain ⟨I, hI, e⟩ := h.ins
  have h1 : isum (fun i => gc (i * 4 + 3)) n = isum (btn (m 19)) n := isum_congr n fun i hi => by
    obtain ⟨-, -, -, e4, -⟩ := h.2.2.2 i (by rw [hm, nI_toInt (by omega)]; omega)
    rw [Nat.mul_comm i 4, e4]
  rw [h1, e]
  refine bt_sum ⟨I, hI⟩ ⟨n, by omega⟩ ?_
  show I < 2 ^ n
  refine Nat.lt_pow_two_of_testBit I fun i hi => ?_
  have h2 := h.2.1 i (by rw [hm, nI_toInt (by omega)]; omega)
  rw [e, nI_clamp (by omega)] at h2
  exact h2
theorem q_howMany (h : GG gc m) (hg : gn = nI n) (hm : m 0 = nI n) (hn : n ≤ 7) : f_X1_howManyIn gc gn = some (nI (pcount (m 19))) := by
  unfold f_X1_howManyIn
  rw [gsum3 gc hg hn, b_some, h.sum hm hn]
theorem q_hasRoom (h : GG gc m) (hg : gn = nI n) (hm : m 0 = nI n) (hn : n ≤ 7) (rooms : Int32) (hr : rooms = m 24) : f_X1_hasRoom gc gn rooms = some (if m 24 ≤ nI (pcount (m 19)) then 0 else 1) := by
  unfold f_X1_hasRoom
  rw [gsum3 gc hg hn, b_some, h.sum hm hn, hr]
  split <;> rfl
end QG
