/-! what the reference writes down, and both beginnings -/
theorem q_mark9 {m refused : Nat → Int32} {p1 p2 p3 : Int32} {R : Nat} (hm : m 3 = nI R) (hR : R < 6) (h1 : ¬ ib p1 0 4 = 0) (h2 : ¬ ib p2 0 9 = 0) (h3 : ¬ ib p3 (-20) 99 = 0) : f_X9_mark m refused p1 p2 p3 = some (nI (R + 1), upd (upd (upd (upd m (88 + 3 * R) p1) (88 + 3 * R + 1) p2) (88 + 3 * R + 2) p3) 3 (nI (R + 1)), refused) := by
  unfold f_X9_mark
  rw [q_wet9, b_some, if_neg h1, show (0 : Int64) = (0 : Int32).toInt64 from rfl, show (9 : Int64) = (9 : Int32).toInt64 from rfl, q_in, b_some, if_neg h2, show (-20 : Int64) = (-20 : Int32).toInt64 from rfl, show (99 : Int64) = (99 : Int32).toInt64 from rfl, q_in, b_some, if_neg h3]
  have e3 : Int32.toNatClampNeg 3 = 3 := rfl
  rw [e3, hm, if_neg (fun q => by have := (nI_eq (by omega) (by decide)).mp (show nI R = nI 6 from q); omega)]
  rw [show (3 : Int32) * nI R = nI (3 * R) from na_mul 3 R, show (88 : Int32) + nI (3 * R) = nI (88 + 3 * R) from na_add 88 (3 * R), show nI (88 + 3 * R) + (1 : Int32) = nI (88 + 3 * R + 1) from na_add _ 1, show nI (88 + 3 * R) + (2 : Int32) = nI (88 + 3 * R + 2) from na_add _ 2]
  rw [if_pos (nI_in (by omega) (by decide)), if_pos (nI_in (by omega) (by decide)), if_pos (nI_in (by omega) (by decide)), nI_clamp (by omega), nI_clamp (by omega), nI_clamp (by omega), up_same, up_ne _ _ (show (3 : Nat) ≠ 88 + 3 * R + 2 by omega), up_ne _ _ (show (3 : Nat) ≠ 88 + 3 * R + 1 by omega), up_ne _ _ (show (3 : Nat) ≠ 88 + 3 * R by omega), hm, show nI R + 1 = nI (R + 1) from na_add R 1]
theorem q_seen9 {m refused : Nat → Int32} {p1 p2 p3 p4 : Int32} {R : Nat} (hm : m 1 = nI R) (hR : R < 5) (h1 : ¬ ib p1 0 (m 0 - 1) = 0) (h2 : ¬ ib p2 0 9 = 0) (h3 : ¬ ib p3 0 99 = 0) (h4 : ¬ ib p4 0 1 = 0) : f_X9_seen m refused p1 p2 p3 p4 = some (nI (R + 1), upd (upd (upd (upd (upd m (38 + 4 * R) p1) (38 + 4 * R + 1) p2) (38 + 4 * R + 2) p3) (38 + 4 * R + 3) p4) 1 (nI (R + 1)), refused) := by
  unfold f_X9_seen
  rw [q_one9, b_some, if_neg h1, q_word9, b_some, if_neg h2, show (0 : Int64) = (0 : Int32).toInt64 from rfl, show (99 : Int64) = (99 : Int32).toInt64 from rfl, q_in, b_some, if_neg h3, show (1 : Int64) = (1 : Int32).toInt64 from rfl, q_in, b_some, if_neg h4]
  have e1 : Int32.toNatClampNeg 1 = 1 := rfl
  rw [e1, hm, if_neg (fun q => by have := (nI_eq (by omega) (by decide)).mp (show nI R = nI 5 from q); omega)]
  rw [show (4 : Int32) * nI R = nI (4 * R) from na_mul 4 R, show (38 : Int32) + nI (4 * R) = nI (38 + 4 * R) from na_add 38 (4 * R), show nI (38 + 4 * R) + (1 : Int32) = nI (38 + 4 * R + 1) from na_add _ 1, show nI (38 + 4 * R) + (2 : Int32) = nI (38 + 4 * R + 2) from na_add _ 2, show nI (38 + 4 * R) + (3 : Int32) = nI (38 + 4 * R + 3) from na_add _ 3]
  rw [if_pos (nI_in (by omega) (by decide)), if_pos (nI_in (by omega) (by decide)), if_pos (nI_in (by omega) (by decide)), if_pos (nI_in (by omega) (by decide)), nI_clamp (by omega), nI_clamp (by omega), nI_clamp (by omega), nI_clamp (by omega), up_same, up_ne _ _ (show (1 : Nat) ≠ 38 + 4 * R + 3 by omega), up_ne _ _ (show (1 : Nat) ≠ 38 + 4 * R + 2 by omega), up_ne _ _ (show (1 : Nat) ≠ 38 + 4 * R + 1 by omega), up_ne _ _ (show (1 : Nat) ≠ 38 + 4 * R by omega), hm, show nI R + 1 = nI (R + 1) from na_add R 1]
theorem q_note9 {m refused : Nat → Int32} {p1 p2 p3 p4 p5 : Int32} {R : Nat} (hm : m 2 = nI R) (hR : R < 6) (h1 : ¬ ib p1 0 (m 0 - 1) = 0) (h2 : ¬ ib p2 0 9 = 0) (h3 : ¬ ib p3 0 9 = 0) (h4 : ¬ ib p4 0 99 = 0) (h5 : ¬ ib p5 0 60 = 0) : f_X9_note m refused p1 p2 p3 p4 p5 = some (nI (R + 1), upd (upd (upd (upd (upd (upd m (58 + 5 * R) p1) (58 + 5 * R + 1) p2) (58 + 5 * R + 2) p3) (58 + 5 * R + 3) p4) (58 + 5 * R + 4) p5) 2 (nI (R + 1)), refused) := by
  unfold f_X9_note
  rw [q_one9, b_some, if_neg h1, q_word9, b_some, if_neg h2, show (0 : Int64) = (0 : Int32).toInt64 from rfl, show (9 : Int64) = (9 : Int32).toInt64 from rfl, q_in, b_some, if_neg h3, show (99 : Int64) = (99 : Int32).toInt64 from rfl, q_in, b_some, if_neg h4, show (60 : Int64) = (60 : Int32).toInt64 from rfl, q_in, b_some, if_neg h5]
  have e2 : Int32.toNatClampNeg 2 = 2 := rfl
  rw [e2, hm, if_neg (fun q => by have := (nI_eq (by omega) (by decide)).mp (show nI R = nI 6 from q); omega)]
  rw [show (5 : Int32) * nI R = nI (5 * R) from na_mul 5 R, show (58 : Int32) + nI (5 * R) = nI (58 + 5 * R) from na_add 58 (5 * R), show nI (58 + 5 * R) + (1 : Int32) = nI (58 + 5 * R + 1) from na_add _ 1, show nI (58 + 5 * R) + (2 : Int32) = nI (58 + 5 * R + 2) from na_add _ 2, show nI (58 + 5 * R) + (3 : Int32) = nI (58 + 5 * R + 3) from na_add _ 3, show nI (58 + 5 * R) + (4 : Int32) = nI (58 + 5 * R + 4) from na_add _ 4]
  rw [if_pos (nI_in (by omega) (by decide)), if_pos (nI_in (by omega) (by decide)), if_pos (nI_in (by omega) (by decide)), if_pos (nI_in (by omega) (by decide)), if_pos (nI_in (by omega) (by decide)), nI_clamp (by omega), nI_clamp (by omega), nI_clamp (by omega), nI_clamp (by omega), nI_clamp (by omega), up_same, up_ne _ _ (show (2 : Nat) ≠ 58 + 5 * R + 4 by omega), up_ne _ _ (show (2 : Nat) ≠ 58 + 5 * R + 3 by omega), up_ne _ _ (show (2 : Nat) ≠ 58 + 5 * R + 2 by omega), up_ne _ _ (show (2 : Nat) ≠ 58 + 5 * R + 1 by omega), up_ne _ _ (show (2 : Nat) ≠ 58 + 5 * R by omega), hm, show nI R + 1 = nI (R + 1) from na_add R 1]
theorem q_begin9 {N : Nat} (hN : 106 ≤ N) (hN2 : N < 1000) (m : Nat → Int32) (a b : Int32) : f_X9_begin N m a b = some (upd (upd (zr m 0 106) 23 a) 24 b) := by
  have loop : ∀ (d j fu : Nat), j + d = 106 → d < fu → f_X9_begin_b2 N fu (zr m 0 j) a b (nI j) = some (upd (upd (zr m 0 106) 23 a) 24 b) := by
    intro d
    induction d with
    | zero =>
      intro j fu h1 h2
      obtain ⟨fu, rfl⟩ : ∃ k, fu = k + 1 := ⟨fu - 1, by omega⟩
      rw [f_X9_begin_b2, show j = 106 by omega, if_pos (show (106 : Int32) ≤ nI 106 by decide), if_pos (show ¬ ((23 : Int32) < 0 ∨ N ≤ (Int32.toNatClampNeg 23)) from nI_in (c := 23) (by omega) (by omega)), if_pos (show ¬ ((24 : Int32) < 0 ∨ N ≤ (Int32.toNatClampNeg 24)) from nI_in (c := 24) (by omega) (by omega))]; rfl
    | succ d ih =>
      intro j fu h1 h2
      obtain ⟨fu, rfl⟩ : ∃ k, fu = k + 1 := ⟨fu - 1, by omega⟩
      rw [f_X9_begin_b2, if_neg (show ¬ (106 : Int32) ≤ nI j from nI_ge (b := 106) (by omega) (by decide)), if_pos (nI_in (by omega) (by omega)), nI_clamp (by omega), show nI j + (1 : Int32) = nI (j + 1) from na_add j 1]
      have h := ih (j + 1) fu (by omega) (by omega)
      rw [zr, Nat.zero_add] at h
      exact h
  exact loop 106 0 s_fuel (by omega) (by unfold s_fuel; omega)
theorem q_setWet {j : Nat} (wets : Nat → Int32) (x : Int32) (hj : j < 6) : f_X1_setWet wets (nI j) x = some (upd wets j x) := by
  unfold f_X1_setWet
  rw [if_neg (nI_pos (by omega)), if_neg (show ¬ (6 : Int32) ≤ nI j from nI_ge (b := 6) (by omega) (by decide)), if_pos (nI_in (by omega) (by decide)), nI_clamp (by omega)]
theorem q_begin (wets : Nat → Int32) (g s r k p h o n w t a b : Int32) : f_X1_begin wets g s r k p h o n w t a b = some (zr wets 0 6, 0, 0, 0, 0, 0, a, b, 0, 0, 0) := by
  have loop : ∀ (d j fu : Nat), j + d = 6 → d < fu → f_X1_begin_b27 fu (zr wets 0 j) g s r k p a b 0 0 0 (nI j) = some (zr wets 0 6, 0, 0, 0, 0, 0, a, b, 0, 0, 0) := by
    intro d
    induction d with
    | zero =>
      intro j fu h1 h2
      obtain ⟨fu, rfl⟩ : ∃ k, fu = k + 1 := ⟨fu - 1, by omega⟩
      rw [f_X1_begin_b27, show j = 6 by omega, if_pos (show (6 : Int32) ≤ nI 6 by decide)]; rfl
    | succ d ih =>
      intro j fu h1 h2
      obtain ⟨fu, rfl⟩ : ∃ k, fu = k + 1 := ⟨fu - 1, by omega⟩
      rw [f_X1_begin_b27, if_neg (show ¬ (6 : Int32) ≤ nI j from nI_ge (b := 6) (by omega) (by decide)), q_setWet _ _ (by omega), b_some, show nI j + (1 : Int32) = nI (j + 1) from na_add j 1]
      have h := ih (j + 1) fu (by omega) (by omega)
      rw [zr, Nat.zero_add] at h
      exact h
  exact loop 6 0 s_fuel (by omega) (by unfold s_fuel; omega)
/-- an inn as at first, of a kind and with rooms -/
theorem HR.first {wets gc sc rc kc pc m : Nat → Int32} {a b : Int32} (ha : rg a 0 5) (hb : rg b 0 7) : HR (zr wets 0 6) gc 0 sc 0 rc 0 kc 0 pc 0 a b 0 0 0 (upd (upd (zr m 0 106) 23 a) 24 b) := by
  have hz : ∀ k : Nat, k < 106 → k ≠ 23 → k ≠ 24 → upd (upd (zr m 0 106) 23 a) 24 b k = 0 := fun k h1 h2 h3 => by
    rw [up_ne _ _ h3, up_ne _ _ h2, zr_get, if_pos (by omega)]
  have h23 : upd (upd (zr m 0 106) 23 a) 24 b 23 = a := by rw [up_ne _ _ (by decide), up_same]
  have h24 : upd (upd (zr m 0 106) 23 a) 24 b 24 = b := up_same _ _ _
  have no : ∀ k : Nat, ¬ (k : Int) < (0 : Int32).toInt := fun k => by rw [show (0 : Int32).toInt = 0 from rfl]; omega
  refine ⟨?_, ?_, ?_, ?_, ?_, ?_, ?_⟩
  · unfold G0
    rw [hz 0 (by decide) (by decide) (by decide), hz 1 (by decide) (by decide) (by decide), hz 2 (by decide) (by decide) (by decide), hz 3 (by decide) (by decide) (by decide), hz 4 (by decide) (by decide) (by decide), hz 22 (by decide) (by decide) (by decide), hz 20 (by decide) (by decide) (by decide), hz 21 (by decide) (by decide) (by decide), h23, h24]
    exact ⟨rfl, rfl, rfl, rfl, rfl, rfl, rfl, rfl, rfl, rfl, rz (by decide), rz (by decide), rz (by decide), rz (by decide), rz (by decide), ha, hb, rz (by decide), rz (by decide), rz (by decide)⟩
  · intro j hj
    rw [zr_get, if_pos (by omega), hz (25 + j) (by omega) (by omega) (by omega)]
    exact ⟨rfl, rz (by decide)⟩
  · unfold GG
    rw [hz 19 (by decide) (by decide) (by decide), hz 0 (by decide) (by decide) (by decide), h24]
    refine ⟨rz (by decide), fun i _ => ?_, ?_, fun i hi => absurd hi (no i)⟩
    · show Nat.testBit 0 i = false
      exact Nat.zero_testBit i
    · show ((0 : Nat) : Int) ≤ b.toInt
      exact hb.1
  · intro k hk; rw [hz 1 (by decide) (by decide) (by decide)] at hk; exact absurd hk (no k)
  · intro k hk; rw [hz 2 (by decide) (by decide) (by decide)] at hk; exact absurd hk (no k)
  · intro k hk; rw [hz 3 (by decide) (by decide) (by decide)] at hk; exact absurd hk (no k)
  · exact GP.zero (hz 4 (by decide) (by decide) (by decide))
