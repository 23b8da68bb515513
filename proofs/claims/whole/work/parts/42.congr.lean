theorem GW.congr {w m m' : Nat → Int32} (h : GW w m) (e : ∀ k : Nat, 25 ≤ k ∧ k < 31 → m' k = m k) : GW w m' := fun j hj => by
  rw [e (25 + j) (by omega)]; exact h j hj
theorem GG.congr {gc m m' : Nat → Int32} (h : GG gc m) (hr : rg (m 0) 0 7) (e : ∀ k : Nat, (k = 0 ∨ k = 24 ∨ k = 19 ∨ (5 ≤ k ∧ k < 19) ∨ (31 ≤ k ∧ k < 38)) → m' k = m k) : GG gc m' := by
  obtain ⟨h1, h2, h3, h4⟩ := h
  unfold GG
  rw [e 0 (by omega), e 24 (by omega), e 19 (by omega)]
  refine ⟨h1, h2, h3, fun i hi => ?_⟩
  have := hr.2
  rw [e (31 + i) (by omega), e (5 + i) (by omega), e (12 + i) (by omega)]
  exact h4 i hi
theorem GS.congr {sc m m' : Nat → Int32} (h : GS sc m) (hr : rg (m 1) 0 5) (e : ∀ k : Nat, (k = 1 ∨ (38 ≤ k ∧ k < 58)) → m' k = m k) : GS sc m' := by
  intro k hk
  rw [e 1 (by omega)] at hk
  have := hr.2
  obtain ⟨h1, h2, h3, h4, h5⟩ := h k hk
  refine ⟨fun j hj => ?_, ?_, ?_, ?_, ?_⟩
  · rw [e _ (by omega)]; exact h1 j hj
  · rw [e _ (by omega)]; exact h2
  · rw [e _ (by omega)]; exact h3
  · rw [e _ (by omega)]; exact h4
  · rw [e _ (by omega)]; exact h5
theorem GN.congr {rc m m' : Nat → Int32} (h : GN rc m) (hr : rg (m 2) 0 6) (e : ∀ k : Nat, (k = 2 ∨ (58 ≤ k ∧ k < 88)) → m' k = m k) : GN rc m' := by
  intro k hk
  rw [e 2 (by omega)] at hk
  have := hr.2
  obtain ⟨h1, h2, h3, h4, h5, h6⟩ := h k hk
  refine ⟨fun j hj => ?_, ?_, ?_, ?_, ?_, ?_⟩
  · rw [e _ (by omega)]; exact h1 j hj
  · rw [e _ (by omega)]; exact h2
  · rw [e _ (by omega)]; exact h3
  · rw [e _ (by omega)]; exact h4
  · rw [e _ (by omega)]; exact h5
  · rw [e _ (by omega)]; exact h6
theorem GK.congr {kc m m' : Nat → Int32} (h : GK kc m) (hr : rg (m 3) 0 6) (e : ∀ k : Nat, (k = 3 ∨ (88 ≤ k ∧ k < 106)) → m' k = m k) : GK kc m' := by
  intro k hk
  rw [e 3 (by omega)] at hk
  have := hr.2
  obtain ⟨h1, h2, h3, h4⟩ := h k hk
  refine ⟨fun j hj => ?_, ?_, ?_, ?_⟩
  · rw [e _ (by omega)]; exact h1 j hj
  · rw [e _ (by omega)]; exact h2
  · rw [e _ (by omega)]; exact h3
  · rw [e _ (by omega)]; exact h4
theorem GP.congr {pc m m' : Nat → Int32} (h : GP pc m) (hr0 : rg (m 0) 0 7) (hr : rg (m 4) 0 8) (e : ∀ k : Nat, (k = 0 ∨ k = 4 ∨ k = 24 ∨ (106 ≤ k ∧ k < 250)) → m' k = m k) : GP pc m' := by
  intro r hk
  rw [e 4 (by omega)] at hk
  have := hr.2
  have := hr0.2
  obtain ⟨h1, h2, h3, h4, h5, h6, h7, h8, h9, h10⟩ := h r hk
  unfold GP1
  rw [e (106 + 18 * r + 17) (by omega), e (106 + 18 * r + 15) (by omega), e (106 + 18 * r + 16) (by omega), e (106 + 18 * r + 14) (by omega), e 0 (by omega), e 24 (by omega)]
  refine ⟨h1, h2, h3, h4, h5, h6, h7, h8, h9, fun i hi => ?_⟩
  rw [e (106 + 18 * r + i) (by omega), e (106 + 18 * r + (7 + i)) (by omega)]
  exact h10 i hi
theorem GP.zero {pc m : Nat → Int32} (h : m 4 = 0) : GP pc m := by
  intro r hk
  rw [h, show (0 : Int32).toInt = 0 from rfl] at hk
  omega
theorem TR.zero {cb mb : Nat → Int32} : TR cb mb 0 0 := ⟨rfl, ⟨by decide, by decide⟩, fun j hj => by rw [show (0 : Int32).toInt = 0 from rfl] at hj; omega⟩
theorem RR.bad {b n f : Int32} {r : Nat → Int32} (h : RR b n f r) : RR (b + 1) n f (upd r 0 (r 0 + 1)) := ⟨by rw [h.1]; rfl, h.2.1, h.2.2⟩
theorem RR.no {b n f : Int32} {r : Nat → Int32} (h : RR b n f r) : RR b (n + 1) f (upd r 1 (r 1 + 1)) := ⟨h.1, by rw [h.2.1]; rfl, h.2.2⟩
theorem RR.full {b n f : Int32} {r : Nat → Int32} (h : RR b n f r) : RR b n (f + 1) (upd r 2 (r 2 + 1)) := ⟨h.1, h.2.1, by rw [h.2.2]; rfl⟩
theorem b_some {α β : Type} (a : α) (f : α → Option β) : (some a).bind f = f a := rfl
/-- one that is no less than 0 is a number -/
theorem nI_ex {x : Int32} (h : 0 ≤ x.toInt) : ∃ n : Nat, n < 2 ^ 31 ∧ x = nI n := by
  have h2 := x.toInt_lt
  refine ⟨x.toInt.toNat, by omega, ?_⟩
  apply Int32.toInt_inj.mp
  rw [nI_toInt (by omega)]; omega
theorem byte_id {x : Int32} (h0 : (0 : Int32).toInt ≤ x.toInt) (h1 : x.toInt ≤ (127 : Int32).toInt) : (vp_nar .byte ((Int32.toInt8 x).toInt32)) = x := by
  rw [show (0 : Int32).toInt = 0 from rfl] at h0
  rw [show (127 : Int32).toInt = 127 from rfl] at h1
  have e : (Int32.toInt8 x).toInt32 = x := by
    apply Int32.toInt_inj.mp
    rw [Int8.toInt_toInt32, Int32.toInt_toInt8, Int.bmod_def]
    omega
  show (Int32.toInt8 ((Int32.toInt8 x).toInt32)).toInt32 = x
  rw [e, e]
theorem rz {h : Int} (hh : 0 ≤ h) : rg 0 0 h := ⟨by decide, hh⟩
