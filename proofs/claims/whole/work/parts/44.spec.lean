/-! what both sides answer, as one value -/
theorem na_sub {a b : Nat} (h : b ≤ a) : nI a - nI b = nI (a - b) := by
  have e : nI a = nI (a - b) + nI b := by rw [na_add, Nat.sub_add_cancel h]
  rw [e, Int32.add_sub_cancel]
theorem na_div {t k : Nat} (ht : t < 2 ^ 31) (hk : 0 < k) (hk2 : k < 2 ^ 31) : nI t / nI k = nI (t / k) := by
  have h1 : t / k ≤ t := Nat.div_le_self t k
  apply Int32.toInt_inj.mp
  rw [Int32.toInt_div, nI_toInt ht, nI_toInt hk2, nI_toInt (by omega), ← Int.ofNat_tdiv]
  generalize t / k = q at h1 ⊢
  rw [Int.bmod_def]
  omega
theorem na_rem {t k : Nat} (ht : t < 2 ^ 31) (hk : 0 < k) (hk2 : k < 2 ^ 31) : nI t - nI t / nI k * nI k = nI (t % k) := by
  have h1 := Nat.div_add_mod t k
  rw [Nat.mul_comm] at h1
  rw [na_div ht hk hk2, na_mul, na_sub (by omega)]
  congr 1
  omega
def lk (k w v n : Int32) : Int32 := (f_X9_likelyAs k w v n).getD 0
def ps (k x a : Int32) : Int32 := (f_X9_passesAs k x a).getD 0
theorem q_lk9 (k w v n : Int32) : f_X9_likelyAs k w v n = some (lk k w v n) := by
  unfold lk f_X9_likelyAs
  repeat' split
  all_goals rfl
theorem q_ps9 (k x a : Int32) : f_X9_passesAs k x a = some (ps k x a) := by
  unfold ps f_X9_passesAs
  repeat' split
  all_goals rfl
theorem q_lk (k w v n : Int32) : f_X2_likely k w v n = some (lk k w v n) := by
  rw [← q_lk9]
  unfold f_X2_likely f_X9_likelyAs
  rw [Int32.add_assoc _ 4 6, show (4 : Int32) + 6 = 10 from rfl]
theorem q_ps (k x a : Int32) : f_X2_letsPass k x a = some (ps k x a) := by
  rw [← q_ps9]; rfl
theorem q_wetOf9 {N t : Nat} (m : Nat → Int32) (hN : 31 ≤ N) (hN2 : N < 1000) (ht : t < 2 ^ 31) : f_X9_wetOf N m (nI t) = some (m (25 + t % 6)) := by
  unfold f_X9_wetOf
  rw [show (6 : Int32) = nI 6 from rfl, na_rem ht (by decide) (by decide), show (25 : Int32) = nI 25 from rfl, na_add]
  have h : t % 6 < 6 := Nat.mod_lt _ (by decide)
  rw [if_pos (nI_in (by omega) (by omega)), nI_clamp (by omega)]
theorem q_wetOf {t : Nat} (wets : Nat → Int32) (ht : t < 2 ^ 31) : f_X1_wetOf wets (nI t) = some (wets (t % 6)) := by
  unfold f_X1_wetOf
  have h : t % 6 < 6 := Nat.mod_lt _ (by decide)
  rw [show (6 : Int32) = nI 6 from rfl, na_rem ht (by decide) (by decide), if_neg (nI_pos (by omega)), if_neg (nI_ge h (by decide)), if_pos (nI_in h (by decide)), nI_clamp (by omega)]
theorem q_lkOf9 {N i : Nat} (m : Nat → Int32) (hN : 38 ≤ N) (hN2 : N < 1000) (hi : i < 7) : f_X9_likelyOf N m (nI i) = some (lk (m (31 + i)) (m (5 + i)) (m (12 + i)) (m 22)) := by
  unfold f_X9_likelyOf
  rw [show (31 : Int32) = nI 31 from rfl, show (5 : Int32) = nI 5 from rfl, show (12 : Int32) = nI 12 from rfl, show (22 : Int32) = nI 22 from rfl, na_add, na_add, na_add]
  rw [if_pos (nI_in (by omega) (by omega)), if_pos (nI_in (by omega) (by omega)), if_pos (nI_in (by omega) (by omega)), if_pos (nI_in (by omega) (by omega)), nI_clamp (by omega), nI_clamp (by omega), nI_clamp (by omega), nI_clamp (by omega), q_lk9, b_some]
theorem q_psNow9 {N t : Nat} (m : Nat → Int32) (hN : 38 ≤ N) (hN2 : N < 1000) (hm : m 22 = nI t) (ht : t < 2 ^ 31) : f_X9_passesNow N m = some (ps (m 23) (m (25 + t % 6)) (m 20)) := by
  unfold f_X9_passesNow
  rw [show (23 : Int32) = nI 23 from rfl, show (20 : Int32) = nI 20 from rfl, show (22 : Int32) = nI 22 from rfl]
  rw [if_pos (nI_in (by omega) (by omega)), if_pos (nI_in (by omega) (by omega)), nI_clamp (by omega), hm, q_wetOf9 m (by omega) hN2 ht, b_some, if_pos (nI_in (by omega) (by omega)), nI_clamp (by omega), nI_clamp (by omega), q_ps9, b_some]
/-! bits of who is in, by going through all -/
theorem bt_has : ∀ I : Fin 128, ∀ i : Fin 7, f_X9_has (nI I.val) (nI i.val) = some (btn (nI I.val) i.val) := by decide +kernel
theorem bt_sh : ∀ I : Fin 128, ∀ i : Fin 7, ((nI I.val >>> (nI i.val &&& 31)) &&& (1 : Int32)) = btn (nI I.val) i.val := by decide +kernel
theorem bt_bits : ∀ I : Fin 128, f_X9_bits (nI I.val) = some (nI (pcount (nI I.val))) := by decide +kernel
theorem bt_set : ∀ I : Fin 128, ∀ i : Fin 7, (nI I.val ||| ((1 : Int32) <<< (nI i.val &&& 31))) = nI (I.val ||| 2 ^ i.val) := by decide +kernel
theorem bt_clr : ∀ I : Fin 128, ∀ i : Fin 7, (nI I.val &&& (((1 : Int32) <<< (nI i.val &&& 31)) ^^^ (-1 : Int32))) = nI (I.val &&& (127 - 2 ^ i.val)) := by decide +kernel
theorem bt_sum : ∀ I : Fin 128, ∀ n : Fin 8, I.val < 2 ^ n.val → isum (btn (nI I.val)) n.val = nI (pcount (nI I.val)) := by decide +kernel
theorem isum_congr {f g : Nat → Int32} : ∀ n : Nat, (∀ i, i < n → f i = g i) → isum f n = isum g n := by
  intro n
  induction n with
  | zero => intro _; rfl
  | succ n ih =>
    intro h
    rw [isum, isum, ih (fun i hi => h i (by omega)), h n (by omega)]
theorem rg_nI {x : Int32} {h : Nat} (hx : rg x 0 h) (hh : h < 2 ^ 31) : ∃ n : Nat, n ≤ h ∧ x = nI n := by
  obtain ⟨n, hn, rfl⟩ := nI_ex hx.1
  refine ⟨n, ?_, rfl⟩
  have := hx.2
  rw [nI_toInt hn] at this
  omega
section GC
variable {gn : Int32} {n i : Nat}
theorem gcell0 (gc : Nat → Int32) (hg : gn = nI n) (hn : n ≤ 7) (hi : i < n) : f_X5_cell 28 (4 : Int32) gc gn (nI i) (0 : Int32) = some (gc (4 * i)) := by
  have h := q_cell (N := 28) (w := 4) (rows := gn) (p := nI i) (q := 0) gc (W := 4) (R := n) (i := i) (j := 0) rfl hg rfl rfl hi (by decide) (by omega) (by decide) (by omega) (by decide)
  rw [Nat.mul_comm i 4] at h
  exact h
theorem gput0 (gc : Nat → Int32) (x : Int32) (hg : gn = nI n) (hn : n ≤ 7) (hi : i < n) : f_X5_put 28 (4 : Int32) gn gc (nI i) (0 : Int32) x = some (upd gc (4 * i) x) := by
  have h := q_put (N := 28) (w := 4) (rows := gn) (p := nI i) (q := 0) gc x (W := 4) (R := n) (i := i) (j := 0) rfl hg rfl rfl hi (by decide) (by omega) (by decide) (by omega) (by decide)
  rw [Nat.mul_comm i 4] at h
  exact h
theorem gcell1 (gc : Nat → Int32) (hg : gn = nI n) (hn : n ≤ 7) (hi : i < n) : f_X5_cell 28 (4 : Int32) gc gn (nI i) (1 : Int32) = some (gc (4 * i + 1)) := by
  have h := q_cell (N := 28) (w := 4) (rows := gn) (p := nI i) (q := 1) gc (W := 4) (R := n) (i := i) (j := 1) rfl hg rfl rfl hi (by decide) (by omega) (by decide) (by omega) (by decide)
  rw [Nat.mul_comm i 4] at h
  exact h
theorem gput1 (gc : Nat → Int32) (x : Int32) (hg : gn = nI n) (hn : n ≤ 7) (hi : i < n) : f_X5_put 28 (4 : Int32) gn gc (nI i) (1 : Int32) x = some (upd gc (4 * i + 1) x) := by
  have h := q_put (N := 28) (w := 4) (rows := gn) (p := nI i) (q := 1) gc x (W := 4) (R := n) (i := i) (j := 1) rfl hg rfl rfl hi (by decide) (by omega) (by decide) (by omega) (by decide)
  rw [Nat.mul_comm i 4] at h
  exact h
theorem gcell2 (gc : Nat → Int32) (hg : gn = nI n) (hn : n ≤ 7) (hi : i < n) : f_X5_cell 28 (4 : Int32) gc gn (nI i) (2 : Int32) = some (gc (4 * i + 2)) := by
  have h := q_cell (N := 28) (w := 4) (rows := gn) (p := nI i) (q := 2) gc (W := 4) (R := n) (i := i) (j := 2) rfl hg rfl rfl hi (by decide) (by omega) (by decide) (by omega) (by decide)
  rw [Nat.mul_comm i 4] at h
  exact h
theorem gput2 (gc : Nat → Int32) (x : Int32) (hg : gn = nI n) (hn : n ≤ 7) (hi : i < n) : f_X5_put 28 (4 : Int32) gn gc (nI i) (2 : Int32) x = some (upd gc (4 * i + 2) x) := by
  have h := q_put (N := 28) (w := 4) (rows := gn) (p := nI i) (q := 2) gc x (W := 4) (R := n) (i := i) (j := 2) rfl hg rfl rfl hi (by decide) (by omega) (by decide) (by omega) (by decide)
  rw [Nat.mul_comm i 4] at h
  exact h
theorem gcell3 (gc : Nat → Int32) (hg : gn = nI n) (hn : n ≤ 7) (hi : i < n) : f_X5_cell 28 (4 : Int32) gc gn (nI i) (3 : Int32) = some (gc (4 * i + 3)) := by
  have h := q_cell (N := 28) (w := 4) (rows := gn) (p := nI i) (q := 3) gc (W := 4) (R := n) (i := i) (j := 3) rfl hg rfl rfl hi (by decide) (by omega) (by decide) (by omega) (by decide)
  rw [Nat.mul_comm i 4] at h
  exact h
theorem gput3 (gc : Nat → Int32) (x : Int32) (hg : gn = nI n) (hn : n ≤ 7) (hi : i < n) : f_X5_put 28 (4 : Int32) gn gc (nI i) (3 : Int32) x = some (upd gc (4 * i + 3) x) := by
  have h := q_put (N := 28) (w := 4) (rows := gn) (p := nI i) (q := 3) gc x (W := 4) (R := n) (i := i) (j := 3) rfl hg rfl rfl hi (by decide) (by omega) (by decide) (by omega) (by decide)
  rw [Nat.mul_comm i 4] at h
  exact h
theorem gsum2 (gc : Nat → Int32) (hg : gn = nI n) (hn : n ≤ 7) : f_X5_sum 28 (4 : Int32) gc gn (2 : Int32) = some (isum (fun i => gc (i * 4 + 2)) n) := q_sum (N := 28) (w := 4) (rows := gn) (q := 2) gc (W := 4) (R := n) (j := 2) rfl hg rfl (by decide) (by omega) (by decide) (by omega) (by decide)
theorem gsum3 (gc : Nat → Int32) (hg : gn = nI n) (hn : n ≤ 7) : f_X5_sum 28 (4 : Int32) gc gn (3 : Int32) = some (isum (fun i => gc (i * 4 + 3)) n) := q_sum (N := 28) (w := 4) (rows := gn) (q := 3) gc (W := 4) (R := n) (j := 3) rfl hg rfl (by decide) (by omega) (by decide) (by omega) (by decide)
end GC
