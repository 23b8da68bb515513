section QL
variable {wets gc m : Nat → Int32} {gn host rooms night wheels turned : Int32} {n i : Nat}
theorem q_leave (gc : Nat → Int32) (hg : gn = nI n) (hn : n ≤ 7) (hi : i < n) : f_X1_leave gn gc (nI i) = some (upd gc (4 * i + 3) 0) := by
  unfold f_X1_leave; rw [gput3 gc 0 hg hn hi, b_some]
/-- GOING: both do the same -/
theorem CR.leave {I : Nat} (h : CR wets gc gn host rooms night wheels turned m) (hm : m 0 = nI n) (hn : n ≤ 7) (hi : i < n) (eI : m 19 = nI I) (hI : I < 128) : CR wets (upd gc (4 * i + 3) 0) gn host rooms night wheels turned (upd m 19 (nI (I &&& (127 - 2 ^ i)))) := by
  obtain ⟨a1, a2, a3, a4, a5, a6, b1, b2, b3, b4, b5, b6, hW, hG⟩ := h
  obtain ⟨s1, s2⟩ := bt_clrn ⟨I, hI⟩ ⟨i, by omega⟩
  dsimp only at s1 s2
  have hk : ∀ k : Nat, k ≠ 19 → upd m 19 (nI (I &&& (127 - 2 ^ i))) k = m k := fun k q => up_ne _ _ q
  have k19 : upd m 19 (nI (I &&& (127 - 2 ^ i))) 19 = nI (I &&& (127 - 2 ^ i)) := up_same _ _ _
  generalize upd m 19 (nI (I &&& (127 - 2 ^ i))) = m' at hk k19 ⊢
  refine ⟨?_, ?_, ?_, ?_, ?_, ?_, ?_, ?_, ?_, ?_, ?_, ?_, hW.congr (fun k hq => hk k (by omega)), ?_⟩
  · rw [hk 0 (by decide)]; exact a1
  · rw [hk 23 (by decide)]; exact a2
  · rw [hk 24 (by decide)]; exact a3
  · rw [hk 22 (by decide)]; exact a4
  · rw [hk 20 (by decide)]; exact a5
  · rw [hk 21 (by decide)]; exact a6
  · rw [hk 0 (by decide)]; exact b1
  · rw [hk 23 (by decide)]; exact b2
  · rw [hk 24 (by decide)]; exact b3
  · rw [hk 22 (by decide)]; exact b4
  · rw [hk 20 (by decide)]; exact b5
  · rw [hk 21 (by decide)]; exact b6
  · obtain ⟨h1, h2, h3, h4⟩ := hG
    unfold GG
    rw [hk 0 (by decide), hk 24 (by decide), k19, nI_clamp (by omega)]
    rw [eI, nI_clamp (by omega)] at h2
    rw [hm, nI_toInt (by omega)] at h2 h4 ⊢
    refine ⟨⟨by rw [nI_toInt (by omega)]; omega, by rw [nI_toInt (by omega)]; omega⟩, fun j hj => ?_, ?_, fun j hj => ?_⟩
    · by_cases hj7 : j < 7
      · have := bt_getc ⟨I, hI⟩ ⟨i, by omega⟩ ⟨j, hj7⟩
        dsimp only at this
        rw [this, h2 j hj]; rfl
      · exact tb_big s1 (by omega)
    · rw [eI] at h3; omega
    · have hgj := bt_getc ⟨I, hI⟩ ⟨i, by omega⟩ ⟨j, by omega⟩
      dsimp only at hgj
      obtain ⟨g1, g2, g3, g4, g5, g6, g7⟩ := h4 j hj
      rw [hk (31 + j) (by omega), hk (5 + j) (by omega), hk (12 + j) (by omega), btn_nI j (by omega), hgj, up_ne _ _ (show 4 * j ≠ 4 * i + 3 by omega), up_ne _ _ (show 4 * j + 1 ≠ 4 * i + 3 by omega), up_ne _ _ (show 4 * j + 2 ≠ 4 * i + 3 by omega)]
      by_cases e : j = i
      · subst e
        rw [up_same, decide_eq_true rfl, Bool.not_true, Bool.and_false, if_neg (by decide)]
        exact ⟨g1, g2, g3, rfl, g5, g6, g7⟩
      · rw [up_ne _ _ (by omega), decide_eq_false (by omega), Bool.not_false, Bool.and_true]
        rw [eI, btn_nI j (by omega)] at g4
        exact ⟨g1, g2, g3, g4, g5, g6, g7⟩
end QL
/-- a row of what may be undone, of so many travellers -/
def kr (gc pc : Nat → Int32) (P : Nat) : Nat → Nat → Int32
  | 0 => pc
  | i + 1 => upd (upd (upd (kr gc pc P i) (P * 24 + (3 + 3 * i)) (gc (4 * i + 1))) (P * 24 + (3 + 3 * i + 1)) (gc (4 * i + 2))) (P * 24 + (3 + 3 * i + 2)) (gc (4 * i + 3))
theorem kr_out (gc pc : Nat → Int32) (P : Nat) : ∀ (n k : Nat), (k < P * 24 + 3 ∨ P * 24 + (3 + 3 * n) ≤ k) → kr gc pc P n k = pc k := by
  intro n
  induction n with
  | zero => intro k _; rfl
  | succ n ih => intro k hk; rw [kr, up_ne _ _ (by omega), up_ne _ _ (by omega), up_ne _ _ (by omega), ih k (by omega)]
theorem kr_in (gc pc : Nat → Int32) (P : Nat) : ∀ (n i : Nat), i < n → kr gc pc P n (P * 24 + (3 + 3 * i)) = gc (4 * i + 1) ∧ kr gc pc P n (P * 24 + (3 + 3 * i + 1)) = gc (4 * i + 2) ∧ kr gc pc P n (P * 24 + (3 + 3 * i + 2)) = gc (4 * i + 3) := by
  intro n
  induction n with
  | zero => intro i h; omega
  | succ n ih =>
    intro i hi
    rw [kr]
    by_cases e : i = n
    · subst e
      refine ⟨?_, ?_, ?_⟩
      · rw [up_ne _ _ (by omega), up_ne _ _ (by omega), up_same]
      · rw [up_ne _ _ (by omega), up_same]
      · rw [up_same]
    · obtain ⟨h1, h2, h3⟩ := ih i (by omega)
      refine ⟨?_, ?_, ?_⟩
      · rw [up_ne _ _ (by omega), up_ne _ _ (by omega), up_ne _ _ (by omega), h1]
      · rw [up_ne _ _ (by omega), up_ne _ _ (by omega), up_ne _ _ (by omega), h2]
      · rw [up_ne _ _ (by omega), up_ne _ _ (by omega), up_ne _ _ (by omega), h3]
theorem q_col (i w : Nat) (hw : 1 ≤ w) : f_X1_pastColumn (nI i) (nI w) = some (nI (3 + 3 * i + (w - 1))) := by
  unfold f_X1_pastColumn
  rw [show (3 : Int32) = nI 3 from rfl, na_mul, na_add, na_add, show (1 : Int32) = nI 1 from rfl, na_sub (by omega), show 3 + 3 * i + w - 1 = 3 + 3 * i + (w - 1) by omega]
theorem q_pput {P R j : Nat} {rows : Int32} (pc : Nat → Int32) (x : Int32) (hR : rows = nI R) (hP : P < R) (hR8 : R ≤ 8) (hj : j < 24) : f_X5_put 192 (24 : Int32) rows pc (nI P) (nI j) x = some (upd pc (P * 24 + j) x) :=
  q_put (N := 192) (w := 24) (rows := rows) (p := nI P) (q := nI j) pc x (W := 24) (R := R) (i := P) (j := j) rfl hR rfl rfl hP hj (by omega) (by decide) (by omega) (by decide)
theorem q_pcell {P R j : Nat} {rows : Int32} (pc : Nat → Int32) (hR : rows = nI R) (hP : P < R) (hR8 : R ≤ 8) (hj : j < 24) : f_X5_cell 192 (24 : Int32) pc rows (nI P) (nI j) = some (pc (P * 24 + j)) :=
  q_cell (N := 192) (w := 24) (rows := rows) (p := nI P) (q := nI j) pc (W := 24) (R := R) (i := P) (j := j) rfl hR rfl rfl hP hj (by omega) (by decide) (by omega) (by decide)
theorem kb79 {gc : Nat → Int32} {gn nt wh tu : Int32} {n i P fu : Nat} (k : (Nat → Int32) → Int32 → Int32 → Int32 → Option ((Nat → Int32) × Int32)) (pc : Nat → Int32) (hg : gn = nI n) (hn : n ≤ 7) (hi : i < n) (hP : P < 8) : f_X1_keep_b79 k gc gn nt wh tu (fu + 4) pc (nI (P + 1)) (nI P) (nI i) (nI 1) = k (upd (upd (upd pc (P * 24 + (3 + 3 * i)) (gc (4 * i + 1))) (P * 24 + (3 + 3 * i + 1)) (gc (4 * i + 2))) (P * 24 + (3 + 3 * i + 2)) (gc (4 * i + 3))) (nI (P + 1)) (nI P) (nI (i + 1)) := by
  rw [f_X1_keep_b79, if_neg (show ¬ (3 : Int32) < nI 1 by decide), q_col i 1 (by decide), b_some, show f_X5_cell 28 4 gc gn (nI i) (nI 1) = some (gc (4 * i + 1)) from gcell1 gc hg hn hi, b_some, q_pput pc _ rfl (by omega) (by omega) (by omega), b_some, show nI 1 + 1 = nI 2 from rfl]
  rw [f_X1_keep_b79, if_neg (show ¬ (3 : Int32) < nI 2 by decide), q_col i 2 (by decide), b_some, show f_X5_cell 28 4 gc gn (nI i) (nI 2) = some (gc (4 * i + 2)) from gcell2 gc hg hn hi, b_some, q_pput _ _ rfl (by omega) (by omega) (by omega), b_some, show nI 2 + 1 = nI 3 from rfl]
  rw [f_X1_keep_b79, if_neg (show ¬ (3 : Int32) < nI 3 by decide), q_col i 3 (by decide), b_some, show f_X5_cell 28 4 gc gn (nI i) (nI 3) = some (gc (4 * i + 3)) from gcell3 gc hg hn hi, b_some, q_pput _ _ rfl (by omega) (by omega) (by omega), b_some, show nI 3 + 1 = nI 4 from rfl]
  rw [f_X1_keep_b79, if_pos (show (3 : Int32) < nI 4 by decide), show nI i + 1 = nI (i + 1) from na_add i 1]
  rfl
theorem kb66 {gc : Nat → Int32} {gn nt wh tu : Int32} {n P : Nat} (pc : Nat → Int32) (hg : gn = nI n) (hn : n ≤ 7) (hP : P < 8) : ∀ (d i fu : Nat), i + d = n → d < fu → f_X1_keep_b66 gc gn nt wh tu fu (kr gc pc P i) (nI (P + 1)) (nI P) (nI i) = some (kr gc pc P n, nI (P + 1)) := by
  intro d
  induction d with
  | zero =>
    intro i fu h1 h2
    obtain ⟨fu, rfl⟩ : ∃ k, fu = k + 1 := ⟨fu - 1, by omega⟩
    rw [f_X1_keep_b66, hg, if_pos (nI_le (by omega) (by omega)), show i = n by omega]
  | succ d ih =>
    intro i fu h1 h2
    obtain ⟨fu, rfl⟩ : ∃ k, fu = k + 1 := ⟨fu - 1, by omega⟩
    rw [f_X1_keep_b66, if_neg (show ¬ gn ≤ nI i by rw [hg]; exact nI_ge (by omega) (by omega)), show s_fuel = 5996 + 4 from rfl, show (1 : Int32) = nI 1 from rfl, kb79 _ _ hg hn (by omega) hP]
    exact ih (i + 1) fu (by omega) (by omega)
theorem q_keep17 {gc : Nat → Int32} {gn nt wh tu pn : Int32} {n P : Nat} (pc : Nat → Int32) (hg : gn = nI n) (hn : n ≤ 7) (hp : pn = nI P) (hP : P < 8) : f_X1_keep_b17 gc gn nt wh tu pc pn = some (kr gc (upd (upd (upd (zr pc (P * 24) 24) (P * 24 + 0) nt) (P * 24 + 1) wh) (P * 24 + 2) tu) P n, nI (P + 1)) := by
  unfold f_X1_keep_b17
  rw [q_append (N := 192) (W := 24) (M := 8) (R := P) (w := 24) (most := 8) pc rfl rfl hp hP (by decide) (by decide) (by decide) (by decide), b_some]
  rw [show (0 : Int32) = nI 0 from rfl, q_pput _ nt rfl (by omega) (by omega) (by decide), b_some, show (1 : Int32) = nI 1 from rfl, q_pput _ wh rfl (by omega) (by omega) (by decide), b_some, show (2 : Int32) = nI 2 from rfl, q_pput _ tu rfl (by omega) (by omega) (by decide), b_some]
  exact kb66 _ hg hn hP n 0 s_fuel (by omega) (by unfold s_fuel; omega)
