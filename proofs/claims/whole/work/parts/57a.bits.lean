/-! words of bits -/
theorem nI_bv (n : Nat) : (nI n).toBitVec = BitVec.ofNat 32 n := rfl
theorem na_or (a b : Nat) : nI a ||| nI b = nI (a ||| b) := by
  apply Int32.toBitVec_inj.mp
  rw [Int32.toBitVec_or, nI_bv, nI_bv, nI_bv]
  apply BitVec.eq_of_toNat_eq
  rw [BitVec.toNat_or, BitVec.toNat_ofNat, BitVec.toNat_ofNat, BitVec.toNat_ofNat, Nat.or_mod_two_pow]
theorem na_and (a b : Nat) : nI a &&& nI b = nI (a &&& b) := by
  apply Int32.toBitVec_inj.mp
  rw [Int32.toBitVec_and, nI_bv, nI_bv, nI_bv]
  apply BitVec.eq_of_toNat_eq
  rw [BitVec.toNat_and, BitVec.toNat_ofNat, BitVec.toNat_ofNat, BitVec.toNat_ofNat, Nat.and_mod_two_pow]
/-- a shift to the right, with the sign's bit or with zeros: the same below 2^31 -/
theorem na_lsr {x : Nat} (k : Nat) (hx : x < 2 ^ 32) (hk : k < 32) : (((nI x).toUInt32 >>> ((nI k).toUInt32 &&& (31 : Int32).toUInt32)).toInt32) = nI (x / 2 ^ k) := by
  apply Int32.toBitVec_inj.mp
  show (BitVec.ofNat 32 x) >>> ((BitVec.ofNat 32 k &&& 31#32) % 32#32) = BitVec.ofNat 32 (x / 2 ^ k)
  have e : ((BitVec.ofNat 32 k &&& 31#32) % 32#32).toNat = k := by
    rw [BitVec.toNat_umod, BitVec.toNat_and, BitVec.toNat_ofNat]
    show (k % 2 ^ 32 &&& 31) % 32 = k
    rw [show 31 = 2 ^ 5 - 1 by decide, Nat.and_two_pow_sub_one_eq_mod]
    omega
  apply BitVec.eq_of_toNat_eq
  have h1 : x / 2 ^ k ≤ x := Nat.div_le_self _ _
  rw [BitVec.ushiftRight_eq', BitVec.toNat_ushiftRight, e, BitVec.toNat_ofNat, BitVec.toNat_ofNat, Nat.shiftRight_eq_div_pow, Nat.mod_eq_of_lt hx, Nat.mod_eq_of_lt (by omega)]
theorem na_asr {x : Nat} (k : Nat) (hx : x < 2 ^ 31) (hk : k < 31) : (nI x >>> (nI k &&& 31)) = nI (x / 2 ^ k) := by
  apply Int32.toBitVec_inj.mp
  rw [Int32.toBitVec_shiftRight]
  have e : ((nI k &&& 31 : Int32).toBitVec.smod 32).toNat = k := by
    have h : ∀ j : Fin 31, ((nI j.val &&& 31 : Int32).toBitVec.smod 32).toNat = j.val := by decide +kernel
    exact h ⟨k, hk⟩
  apply BitVec.eq_of_toNat_eq
  have h1 : x / 2 ^ k ≤ x := Nat.div_le_self _ _
  have hm : (nI x).toBitVec.msb = false := by
    rw [nI_bv, BitVec.msb_eq_decide, BitVec.toNat_ofNat, decide_eq_false]
    omega
  rw [BitVec.toNat_sshiftRight'_of_msb_false hm, e, nI_bv, nI_bv, BitVec.toNat_ofNat, BitVec.toNat_ofNat, Nat.shiftRight_eq_div_pow, Nat.mod_eq_of_lt (by omega), Nat.mod_eq_of_lt (by omega)]
theorem na_bit {x k : Nat} (hx : x < 2 ^ 31) (hk : k < 31) : ((nI x >>> (nI k &&& 31)) &&& (1 : Int32)) = if x.testBit k then 1 else 0 := by
  rw [na_asr k hx hk, show (1 : Int32) = nI 1 from rfl, na_and, Nat.and_one_is_mod]
  have h : x.testBit k = decide (x / 2 ^ k % 2 = 1) := Nat.testBit_eq_decide_div_mod_eq
  rw [h]
  rcases Nat.mod_two_eq_zero_or_one (x / 2 ^ k) with q | q
  · rw [q]; rfl
  · rw [q]; rfl
theorem na_one {k : Nat} (hk : k < 31) : ((1 : Int32) <<< (nI k &&& 31)) = nI (2 ^ k) := by
  have h : ∀ j : Fin 31, ((1 : Int32) <<< (nI j.val &&& 31)) = nI (2 ^ j.val) := by decide +kernel
  exact h ⟨k, hk⟩
/-- a mask of those of which it is so -/
def msk (f : Nat → Bool) : Nat → Nat
  | 0 => 0
  | v + 1 => msk f v + if f v then 2 ^ v else 0
theorem msk_lt (f : Nat → Bool) : ∀ v : Nat, msk f v < 2 ^ v
  | 0 => Nat.zero_lt_one
  | v + 1 => by
    have := msk_lt f v
    rw [msk, Nat.pow_succ]
    split <;> omega
theorem msk_bit (f : Nat → Bool) : ∀ v k : Nat, k < v → (msk f v).testBit k = f k
  | 0, k, h => by omega
  | v + 1, k, h => by
    have hl := msk_lt f v
    rw [msk]
    by_cases e : k = v
    · subst e
      cases hf : f k with
      | false => rw [if_neg (by decide), Nat.add_zero]; exact Nat.testBit_lt_two_pow hl
      | true =>
        rw [if_pos rfl, Nat.add_comm, Nat.testBit_two_pow_add_eq, Nat.testBit_lt_two_pow hl]; rfl
    · have ih := msk_bit f v k (by omega)
      split
      · rw [Nat.add_comm, Nat.testBit_two_pow_add_gt (by omega), ih]
      · rw [Nat.add_zero, ih]
theorem msk_or {f : Nat → Bool} {v : Nat} (hv : v < 31) : (nI (msk f v) ||| ((1 : Int32) <<< (nI v &&& 31))) = nI (msk f v + 2 ^ v) := by
  rw [na_one hv, na_or, Nat.or_comm]
  have h := Nat.two_pow_add_eq_or_of_lt (msk_lt f v) 1
  rw [Nat.mul_one] at h
  rw [← h, Nat.add_comm]
/-- how many -/
def cntb (f : Nat → Bool) : Nat → Nat
  | 0 => 0
  | v + 1 => cntb f v + if f v then 1 else 0
theorem cntb_le (f : Nat → Bool) : ∀ v : Nat, cntb f v ≤ v
  | 0 => Nat.le_refl 0
  | v + 1 => by have := cntb_le f v; rw [cntb]; split <;> omega
theorem cntb_congr {f g : Nat → Bool} : ∀ v : Nat, (∀ k, k < v → f k = g k) → cntb f v = cntb g v
  | 0, _ => rfl
  | v + 1, h => by rw [cntb, cntb, cntb_congr v (fun k hk => h k (by omega)), h v (by omega)]
theorem cntb_app (f : Nat → Bool) (a : Nat) : ∀ b : Nat, cntb f (a + b) = cntb f a + cntb (fun j => f (a + j)) b
  | 0 => rfl
  | b + 1 => by rw [← Nat.add_assoc, cntb, cntb, cntb_app f a b, Nat.add_assoc]
theorem tb_app {a y : Nat} (ha : a < 256) (j : Nat) : (a + 256 * y).testBit j = if j < 8 then a.testBit j else y.testBit (j - 8) := by
  have h := Nat.testBit_two_pow_mul_add y (show a < 2 ^ 8 from ha) j
  rw [show a + 256 * y = 2 ^ 8 * y + a by omega]
  exact h
theorem and_byte {a y k μ M : Nat} (ha : a < 256) (hk : k ≤ 8) (hμ : μ < 2 ^ (8 - k)) : ((a + 256 * y) / 2 ^ k) &&& (μ + 256 * M) = ((a / 2 ^ k) &&& μ) + 256 * ((y / 2 ^ k) &&& M) := by
  have hμ8 : μ < 256 := Nat.lt_of_lt_of_le hμ (show 2 ^ (8 - k) ≤ 2 ^ 8 from Nat.pow_le_pow_right (by decide) (by omega))
  have hl : ((a / 2 ^ k) &&& μ) < 256 := Nat.lt_of_le_of_lt Nat.and_le_right hμ8
  apply Nat.eq_of_testBit_eq
  intro j
  rw [Nat.testBit_and, Nat.testBit_div_two_pow, tb_app ha, tb_app hμ8, tb_app hl]
  by_cases h8 : j < 8
  · rw [if_pos h8, if_pos h8, Nat.testBit_and, Nat.testBit_div_two_pow]
    by_cases hjk : k + j < 8
    · rw [show j + k = k + j by omega, if_pos hjk]
    · have hz : μ.testBit j = false := Nat.testBit_lt_two_pow (Nat.lt_of_lt_of_le hμ (Nat.pow_le_pow_right (by decide) (by omega)))
      rw [hz, Bool.and_false, Bool.and_false]
  · rw [if_neg h8, if_neg h8, if_neg (by omega), Nat.testBit_and, Nat.testBit_div_two_pow, show j + k - 8 = j - 8 + k by omega]
def pc8 (a : Nat) : Nat := a.testBit 0 |>.toNat |> (· + (a.testBit 1).toNat) |> (· + (a.testBit 2).toNat) |> (· + (a.testBit 3).toNat) |> (· + (a.testBit 4).toNat) |> (· + (a.testBit 5).toNat) |> (· + (a.testBit 6).toNat) |> (· + (a.testBit 7).toNat)
def sw1 (a : Nat) : Nat := a - ((a / 2 ^ 1) &&& 85)
def sw2 (a : Nat) : Nat := (a &&& 51) + ((a / 2 ^ 2) &&& 51)
theorem sw_all : ∀ a : Fin 256, ((a.val / 2 ^ 1) &&& 85) ≤ a.val ∧ sw1 a.val < 256 ∧ sw2 (sw1 a.val) ≤ 0x44 ∧ sw2 (sw1 a.val) % 16 ≤ 4 ∧ (sw2 (sw1 a.val) + sw2 (sw1 a.val) / 16) % 16 = pc8 a.val ∧ pc8 a.val ≤ 8 := by decide +kernel
def b4 (a b c d : Nat) : Nat := a + 256 * (b + 256 * (c + 256 * d))
theorem and_4 {a b c d k μ : Nat} (ha : a < 256) (hb : b < 256) (hc : c < 256) (_hd : d < 256) (hk : k ≤ 8) (hμ : μ < 2 ^ (8 - k)) : ((b4 a b c d) / 2 ^ k) &&& (b4 μ μ μ μ) = b4 ((a / 2 ^ k) &&& μ) ((b / 2 ^ k) &&& μ) ((c / 2 ^ k) &&& μ) ((d / 2 ^ k) &&& μ) := by
  unfold b4
  rw [and_byte ha hk hμ, and_byte hb hk hμ, and_byte hc hk hμ]
def swar (x : Nat) : Nat :=
  let t1 := x - ((x / 2 ^ 1) &&& 1431655765)
  let t2 := (t1 &&& 858993459) + ((t1 / 2 ^ 2) &&& 858993459)
  let t3 := (t2 + t2 / 2 ^ 4) &&& 252645135
  let t4 := t3 + t3 / 2 ^ 8
  let t5 := t4 + t4 / 2 ^ 16
  t5 &&& 63
theorem swar_eq {a b c d : Nat} (ha : a < 256) (hb : b < 256) (hc : c < 256) (hd : d < 256) : swar (b4 a b c d) = pc8 a + pc8 b + pc8 c + pc8 d := by
  obtain ⟨a1, a2, a3, a4, a5, a6⟩ := sw_all ⟨a, ha⟩
  obtain ⟨b1, b2, b3, b4', b5, b6⟩ := sw_all ⟨b, hb⟩
  obtain ⟨c1, c2, c3, c4, c5, c6⟩ := sw_all ⟨c, hc⟩
  obtain ⟨d1, d2, d3, d4, d5, d6⟩ := sw_all ⟨d, hd⟩
  dsimp only at a1 a2 a3 a4 a5 a6 b1 b2 b3 b4' b5 b6 c1 c2 c3 c4 c5 c6 d1 d2 d3 d4 d5 d6
  have e1 : b4 a b c d - ((b4 a b c d / 2 ^ 1) &&& 1431655765) = b4 (sw1 a) (sw1 b) (sw1 c) (sw1 d) := by
    rw [show 1431655765 = b4 85 85 85 85 from rfl, and_4 ha hb hc hd (by decide) (by decide)]
    unfold b4 sw1
    omega
  have e2 : (b4 (sw1 a) (sw1 b) (sw1 c) (sw1 d) &&& 858993459) + ((b4 (sw1 a) (sw1 b) (sw1 c) (sw1 d) / 2 ^ 2) &&& 858993459) = b4 (sw2 (sw1 a)) (sw2 (sw1 b)) (sw2 (sw1 c)) (sw2 (sw1 d)) := by
    have h0 := and_4 (k := 0) (μ := 51) a2 b2 c2 d2 (by decide) (by decide)
    rw [Nat.pow_zero, Nat.div_one, Nat.div_one, Nat.div_one, Nat.div_one, Nat.div_one] at h0
    rw [show 858993459 = b4 51 51 51 51 from rfl, h0, and_4 a2 b2 c2 d2 (by decide) (by decide)]
    unfold b4 sw2
    omega
  have e3 : (b4 (sw2 (sw1 a)) (sw2 (sw1 b)) (sw2 (sw1 c)) (sw2 (sw1 d)) + b4 (sw2 (sw1 a)) (sw2 (sw1 b)) (sw2 (sw1 c)) (sw2 (sw1 d)) / 2 ^ 4) &&& 252645135 = b4 (pc8 a) (pc8 b) (pc8 c) (pc8 d) := by
    generalize sw2 (sw1 a) = u at *
    generalize sw2 (sw1 b) = v at *
    generalize sw2 (sw1 c) = w at *
    generalize sw2 (sw1 d) = z at *
    have h : b4 u v w z + b4 u v w z / 2 ^ 4 = b4 (u + u / 16 + 16 * (v % 16)) (v + v / 16 + 16 * (w % 16)) (w + w / 16 + 16 * (z % 16)) (z + z / 16) := by
      unfold b4; omega
    have h0 := and_4 (a := u + u / 16 + 16 * (v % 16)) (b := v + v / 16 + 16 * (w % 16)) (c := w + w / 16 + 16 * (z % 16)) (d := z + z / 16) (k := 0) (μ := 15) (by omega) (by omega) (by omega) (by omega) (by decide) (by decide)
    rw [Nat.pow_zero, Nat.div_one, Nat.div_one, Nat.div_one, Nat.div_one, Nat.div_one] at h0
    rw [h, show 252645135 = b4 15 15 15 15 from rfl, h0]
    have m15 : ∀ q : Nat, q &&& 15 = q % 16 := fun q => Nat.and_two_pow_sub_one_eq_mod q 4
    rw [m15, m15, m15, m15, show (u + u / 16 + 16 * (v % 16)) % 16 = pc8 a by omega, show (v + v / 16 + 16 * (w % 16)) % 16 = pc8 b by omega, show (w + w / 16 + 16 * (z % 16)) % 16 = pc8 c by omega, d5]
  unfold swar
  dsimp only
  rw [e1, e2, e3]
  have m63 : ∀ q : Nat, q &&& 63 = q % 64 := fun q => Nat.and_two_pow_sub_one_eq_mod q 6
  rw [m63]
  unfold b4
  generalize pc8 a = u at a6 ⊢
  generalize pc8 b = v at b6 ⊢
  generalize pc8 c = w at c6 ⊢
  generalize pc8 d = z at d6 ⊢
  clear a1 a2 a3 a4 a5 b1 b2 b3 b4' b5 c1 c2 c3 c4 c5 d1 d2 d3 d4 d5 e1 e2 e3 m63 ha hb hc hd
  rw [show (u + 256 * (v + 256 * (w + 256 * z))) / 2 ^ 8 = v + 256 * (w + 256 * z) by omega, show u + 256 * (v + 256 * (w + 256 * z)) + (v + 256 * (w + 256 * z)) = (u + v) + 256 * ((v + w) + 256 * ((w + z) + 256 * z)) by omega, show ((u + v) + 256 * ((v + w) + 256 * ((w + z) + 256 * z))) / 2 ^ 16 = (w + z) + 256 * z by omega]
  omega
theorem msk_app (f : Nat → Bool) (a : Nat) : ∀ b : Nat, msk f (a + b) = msk f a + 2 ^ a * msk (fun j => f (a + j)) b
  | 0 => rfl
  | b + 1 => by
    rw [← Nat.add_assoc, msk, msk, msk_app f a b, Nat.mul_add, Nat.add_assoc]
    split
    · rw [Nat.pow_add]
    · rfl
theorem pc8_msk (f : Nat → Bool) (n : Nat) (hn : n ≤ 8) : pc8 (msk f n) = cntb f n := by
  have h : ∀ k, (msk f n).testBit k = if k < n then f k else false := fun k => by
    by_cases e : k < n
    · rw [if_pos e, msk_bit f n k e]
    · rw [if_neg e]; exact Nat.testBit_lt_two_pow (Nat.lt_of_lt_of_le (msk_lt f n) (Nat.pow_le_pow_right (by decide) (by omega)))
  have t : ∀ b : Bool, b.toNat = if b then 1 else 0 := by decide
  unfold pc8
  dsimp only
  rw [h, h, h, h, h, h, h, h]
  rcases (show n = 0 ∨ n = 1 ∨ n = 2 ∨ n = 3 ∨ n = 4 ∨ n = 5 ∨ n = 6 ∨ n = 7 ∨ n = 8 by omega) with rfl | rfl | rfl | rfl | rfl | rfl | rfl | rfl | rfl <;> simp [cntb, t]
theorem swar_msk (f : Nat → Bool) : swar (msk f 31) = cntb f 31 := by
  have e : msk f 31 = b4 (msk f 8) (msk (fun j => f (8 + j)) 8) (msk (fun j => f (8 + (8 + j))) 8) (msk (fun j => f (8 + (8 + (8 + j)))) 7) := by
    rw [show 31 = 8 + (8 + (8 + 7)) from rfl, msk_app, msk_app, msk_app]; rfl
  rw [e, swar_eq (msk_lt _ _) (msk_lt _ _) (msk_lt _ _) (Nat.lt_trans (msk_lt _ _) (by decide)), pc8_msk _ _ (by decide), pc8_msk _ _ (by decide), pc8_msk _ _ (by decide), pc8_msk _ _ (by decide)]
  rw [show 31 = 8 + (8 + (8 + 7)) from rfl, cntb_app, cntb_app, cntb_app]
  omega
theorem q_bitCount {x : Nat} (hx : x < 2 ^ 31) : f_J6_bitCount_0f7a4 (nI x) = some (nI (swar x)) := by
  have l1 : ∀ y : Nat, y < 2 ^ 32 → (((nI y).toUInt32 >>> (Int32.toUInt32 (1 : Int32) &&& Int32.toUInt32 31)).toInt32) = nI (y / 2 ^ 1) := fun y h => na_lsr 1 h (by decide)
  have l2 : ∀ y : Nat, y < 2 ^ 32 → (((nI y).toUInt32 >>> (Int32.toUInt32 (2 : Int32) &&& Int32.toUInt32 31)).toInt32) = nI (y / 2 ^ 2) := fun y h => na_lsr 2 h (by decide)
  have l4 : ∀ y : Nat, y < 2 ^ 32 → (((nI y).toUInt32 >>> (Int32.toUInt32 (4 : Int32) &&& Int32.toUInt32 31)).toInt32) = nI (y / 2 ^ 4) := fun y h => na_lsr 4 h (by decide)
  have l8 : ∀ y : Nat, y < 2 ^ 32 → (((nI y).toUInt32 >>> (Int32.toUInt32 (8 : Int32) &&& Int32.toUInt32 31)).toInt32) = nI (y / 2 ^ 8) := fun y h => na_lsr 8 h (by decide)
  have l16 : ∀ y : Nat, y < 2 ^ 32 → (((nI y).toUInt32 >>> (Int32.toUInt32 (16 : Int32) &&& Int32.toUInt32 31)).toInt32) = nI (y / 2 ^ 16) := fun y h => na_lsr 16 h (by decide)
  have n1 : ∀ y : Nat, nI y &&& (1431655765 : Int32) = nI (y &&& 1431655765) := fun y => na_and y 1431655765
  have n2 : ∀ y : Nat, nI y &&& (858993459 : Int32) = nI (y &&& 858993459) := fun y => na_and y 858993459
  have n3 : ∀ y : Nat, nI y &&& (252645135 : Int32) = nI (y &&& 252645135) := fun y => na_and y 252645135
  have n4 : ∀ y : Nat, nI y &&& (63 : Int32) = nI (y &&& 63) := fun y => na_and y 63
  have i1 : (x / 2 ^ 1) &&& 1431655765 ≤ x := Nat.le_trans Nat.and_le_left (Nat.div_le_self _ _)
  have hs : swar x = swar x := rfl
  unfold swar at hs ⊢
  dsimp only at hs ⊢
  unfold f_J6_bitCount_0f7a4
  rw [l1 x (by omega), n1, na_sub i1]
  have hb1 : x - (x / 2 ^ 1 &&& 1431655765) < 2 ^ 31 := by omega
  generalize x - (x / 2 ^ 1 &&& 1431655765) = t1 at hb1 ⊢
  rw [l2 t1 (by omega), n2, n2, na_add]
  have hb2 : (t1 &&& 858993459) + (t1 / 2 ^ 2 &&& 858993459) < 2 ^ 31 := by
    have h1 : t1 &&& 858993459 ≤ 858993459 := Nat.and_le_right
    have h2 : t1 / 2 ^ 2 &&& 858993459 ≤ 858993459 := Nat.and_le_right
    omega
  generalize (t1 &&& 858993459) + (t1 / 2 ^ 2 &&& 858993459) = t2 at hb2 ⊢
  rw [l4 t2 (by omega), na_add, n3]
  have hb3 : (t2 + t2 / 2 ^ 4) &&& 252645135 ≤ 252645135 := Nat.and_le_right
  generalize (t2 + t2 / 2 ^ 4) &&& 252645135 = t3 at hb3 ⊢
  rw [l8 t3 (by omega), na_add]
  have hb4 : t3 + t3 / 2 ^ 8 < 2 ^ 31 := by omega
  generalize t3 + t3 / 2 ^ 8 = t4 at hb4 ⊢
  rw [l16 t4 (by omega), na_add, n4]

