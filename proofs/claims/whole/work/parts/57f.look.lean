def lkT (m : Nat → Int32) (i : Nat) (S : Nat → Bool) (q : Nat) : Int32 := nI (mxa S (fun k => lk (nI k) (m (5 + i)) (nI (q / 7)) (nI (q % 7))) 6)
def psT (S : Nat → Bool) (q : Nat) : Int32 := nI (mxa S (fun k => ps (nI k) (nI (q / 10)) (nI (q % 10))) 6)
section QK
variable {gc rc m : Nat → Int32} {gn rn : Int32} {n i : Nat}
theorem q_look54 {S : Nat → Bool} {v w : Nat} {l2 b f wd : Int32} (A : Nat → Int32) (k23 : (Nat → Int32) → Int32 → Int32 → Int32 → Int32 → Int32 → Option (Int32 × (Nat → Int32))) (k33 : (Nat → Int32) → Int32 → Int32 → Int32 → Int32 → Int32 → Int32 → Option (Int32 × (Nat → Int32))) : ∀ (d z fu : Nat), z + d = 6 → d < fu → f_X7_bestLook_b54 k23 k33 gc gn rc rn fu (fil A (fun k => lk (nI k) wd (nI v) (nI w)) z) l2 (nI (msk S 6)) b f (nI v) (nI w) wd (nI z) = if f ≤ nI (mxa S (fun k => lk (nI k) wd (nI v) (nI w)) 6) then k33 (fil A (fun k => lk (nI k) wd (nI v) (nI w)) 6) l2 (nI (msk S 6)) b f (nI v) (nI (w + 1)) else k33 (fil A (fun k => lk (nI k) wd (nI v) (nI w)) 6) l2 (nI (msk S 6)) (nI (100 * v + w)) (nI (mxa S (fun k => lk (nI k) wd (nI v) (nI w)) 6)) (nI v) (nI (w + 1)) := by
  intro d
  induction d with
  | zero =>
    intro z fu h1 h2
    obtain ⟨fu, rfl⟩ : ∃ k, fu = k + 1 := ⟨fu - 1, by omega⟩
    rw [f_X7_bestLook_b54, show z = 6 by omega, if_pos (show (6 : Int32) ≤ nI 6 by decide), q_ma8, b_some, mxa_fil]
    unfold f_X7_bestLook_b113
    rw [show nI w + (1 : Int32) = nI (w + 1) from na_add w 1, show (100 : Int32) * nI v = nI (100 * v) from na_mul 100 v, na_add]
  | succ d ih =>
    intro z fu h1 h2
    obtain ⟨fu, rfl⟩ : ∃ k, fu = k + 1 := ⟨fu - 1, by omega⟩
    have h := ih (z + 1) fu (by omega) (by omega)
    rw [← fil_step] at h
    rw [f_X7_bestLook_b54, if_neg (show ¬ (6 : Int32) ≤ nI z from nI_ge (b := 6) (by omega) (by decide)), q_lk, b_some, if_pos (nI_in (show z < 6 by omega) (by decide)), nI_clamp (by omega), show nI z + (1 : Int32) = nI (z + 1) from na_add z 1]
    exact h
theorem q_look33 {F0 : Int32} {S : Nat → Bool} {v : Nat} (hG : GG gc m) (hg : gn = nI n) (hm : m 0 = nI n) (hn : n ≤ 7) (hi : i < n) (k23 : (Nat → Int32) → Int32 → Int32 → Int32 → Int32 → Int32 → Option (Int32 × (Nat → Int32))) (hv : v < 1000) : ∀ (d w fu : Nat) (A : Nat → Int32), w + d = 7 → d < fu → ∃ A' : Nat → Int32, f_X7_bestLook_b33 k23 gc gn rc rn fu A (nI i) (nI (msk S 6)) (sel F0 (lkT m i S) (cod 100 7) (7 * v + w)).1 (sel F0 (lkT m i S) (cod 100 7) (7 * v + w)).2 (nI v) (nI w) = k23 A' (nI i) (nI (msk S 6)) (sel F0 (lkT m i S) (cod 100 7) (7 * (v + 1))).1 (sel F0 (lkT m i S) (cod 100 7) (7 * (v + 1))).2 (nI (v + 1)) := by
  obtain ⟨-, g2, -⟩ := hG.2.2.2 i (by rw [hm, nI_toInt (by omega)]; omega)
  intro d
  induction d with
  | zero =>
    intro w fu A h1 h2
    obtain ⟨fu, rfl⟩ : ∃ k, fu = k + 1 := ⟨fu - 1, by omega⟩
    refine ⟨A, ?_⟩
    rw [f_X7_bestLook_b33, show w = 7 by omega, if_pos (show (7 : Int32) ≤ nI 7 by decide), show nI v + (1 : Int32) = nI (v + 1) from na_add v 1] <;> rfl
  | succ d ih =>
    intro w fu A h1 h2
    obtain ⟨fu, rfl⟩ : ∃ k, fu = k + 1 := ⟨fu - 1, by omega⟩
    have e1 : (7 * v + w) / 7 = v := by omega
    have e2 : (7 * v + w) % 7 = w := by omega
    have hT : lkT m i S (7 * v + w) = nI (mxa S (fun k => lk (nI k) (gc (4 * i + 1)) (nI v) (nI w)) 6) := by
      unfold lkT; rw [e1, e2, g2]
    have hc : cod 100 7 (7 * v + w) = nI (100 * v + w) := by unfold cod; rw [e1, e2]
    obtain ⟨A', h⟩ := ih (w + 1) fu (fil A (fun k => lk (nI k) (gc (4 * i + 1)) (nI v) (nI w)) 6) (by omega) (by omega)
    rw [← Nat.add_assoc, sel, hT, hc] at h
    refine ⟨A', ?_⟩
    have h54 := q_look54 (gc := gc) (rc := rc) (gn := gn) (rn := rn) (S := S) (v := v) (w := w) (l2 := nI i) (b := (sel F0 (lkT m i S) (cod 100 7) (7 * v + w)).1) (f := (sel F0 (lkT m i S) (cod 100 7) (7 * v + w)).2) (wd := gc (4 * i + 1)) A k23 (f_X7_bestLook_b33 k23 gc gn rc rn fu) 6 0 s_fuel (by omega) (by unfold s_fuel; omega)
    rw [fil_zero] at h54
    rw [f_X7_bestLook_b33, if_neg (show ¬ (7 : Int32) ≤ nI w from nI_ge (b := 7) (by omega) (by decide)), gcell1 gc hg hn hi, b_some]
    refine h54.trans ?_
    by_cases z : (sel F0 (lkT m i S) (cod 100 7) (7 * v + w)).2 ≤ nI (mxa S (fun k => lk (nI k) (gc (4 * i + 1)) (nI v) (nI w)) 6)
    · rw [if_pos z] at h ⊢; exact h
    · rw [if_neg z] at h ⊢; exact h
theorem q_look23 {F0 : Int32} {S : Nat → Bool} (hG : GG gc m) (hg : gn = nI n) (hm : m 0 = nI n) (hn : n ≤ 7) (hi : i < n) : ∀ (d v fu : Nat) (A : Nat → Int32), v + d = 10 → d < fu → ∃ A' : Nat → Int32, f_X7_bestLook_b23 gc gn rc rn fu A (nI i) (nI (msk S 6)) (sel F0 (lkT m i S) (cod 100 7) (7 * v)).1 (sel F0 (lkT m i S) (cod 100 7) (7 * v)).2 (nI v) = some ((sel F0 (lkT m i S) (cod 100 7) 70).1, A') := by
  intro d
  induction d with
  | zero =>
    intro v fu A h1 h2
    obtain ⟨fu, rfl⟩ : ∃ k, fu = k + 1 := ⟨fu - 1, by omega⟩
    exact ⟨A, by rw [f_X7_bestLook_b23, show v = 10 by omega, if_pos (show (9 : Int32) < nI 10 by decide)]⟩
  | succ d ih =>
    intro v fu A h1 h2
    obtain ⟨fu, rfl⟩ : ∃ k, fu = k + 1 := ⟨fu - 1, by omega⟩
    obtain ⟨A1, h⟩ := q_look33 (F0 := F0) (S := S) (rc := rc) (rn := rn) (v := v) hG hg hm hn hi (f_X7_bestLook_b23 gc gn rc rn fu) (by omega) 7 0 s_fuel A (by omega) (by unfold s_fuel; omega)
    obtain ⟨A2, h'⟩ := ih (v + 1) fu A1 (by omega) (by omega)
    refine ⟨A2, ?_⟩
    rw [f_X7_bestLook_b23, if_neg (show ¬ (9 : Int32) < nI v from nI_nlt (b := v) (a := 9) (by omega) (by omega))]
    exact h.trans h'
theorem q_look54' {r : Nat → Int32} {S : Nat → Bool} {v w : Nat} {b f : Int32} (A : Nat → Int32) (k30 : (Nat → Int32) → (Nat → Int32) → Int32 → Int32 → Int32 → Int32 → Int32 → Option (Int32 × (Nat → Int32) × (Nat → Int32))) (k44 : (Nat → Int32) → (Nat → Int32) → Int32 → Int32 → Int32 → Int32 → Int32 → Int32 → Option (Int32 × (Nat → Int32) × (Nat → Int32))) (hi : i < 7) : ∀ (d z fu : Nat), z + d = 6 → d < fu → f_X9_look_b54 k30 k44 m fu r (fil A (fun k => lk (nI k) (m (5 + i)) (nI v) (nI w)) z) (nI i) (nI (msk S 6)) b f (nI v) (nI w) (nI z) = if f ≤ nI (mxa S (fun k => lk (nI k) (m (5 + i)) (nI v) (nI w)) 6) then k44 r (fil A (fun k => lk (nI k) (m (5 + i)) (nI v) (nI w)) 6) (nI i) (nI (msk S 6)) b f (nI v) (nI (w + 1)) else k44 r (fil A (fun k => lk (nI k) (m (5 + i)) (nI v) (nI w)) 6) (nI i) (nI (msk S 6)) (nI (100 * v + w)) (nI (mxa S (fun k => lk (nI k) (m (5 + i)) (nI v) (nI w)) 6)) (nI v) (nI (w + 1)) := by
  intro d
  induction d with
  | zero =>
    intro z fu h1 h2
    obtain ⟨fu, rfl⟩ : ∃ k, fu = k + 1 := ⟨fu - 1, by omega⟩
    rw [f_X9_look_b54, show z = 6 by omega, if_pos (show (6 : Int32) ≤ nI 6 by decide), q_ma9, b_some, mxa_fil]
    unfold f_X9_look_b117 f_X9_look_b132
    rw [show nI w + (1 : Int32) = nI (w + 1) from na_add w 1, show (100 : Int32) * nI v = nI (100 * v) from na_mul 100 v, na_add]
    by_cases y : f ≤ nI (mxa S (fun k => lk (nI k) (m (5 + i)) (nI v) (nI w)) 6)
    · rw [if_pos y, if_pos y, if_pos y]
    · rw [if_neg y, if_neg y, if_neg y]
  | succ d ih =>
    intro z fu h1 h2
    obtain ⟨fu, rfl⟩ : ∃ k, fu = k + 1 := ⟨fu - 1, by omega⟩
    have h := ih (z + 1) fu (by omega) (by omega)
    rw [← fil_step] at h
    rw [f_X9_look_b54, if_neg (show ¬ (6 : Int32) ≤ nI z from nI_ge (b := 6) (by omega) (by decide)), show (5 : Int32) + nI i = nI (5 + i) from na_add 5 i, if_pos (nI_in (by omega) (by decide)), nI_clamp (by omega), q_lk9, b_some, if_pos (nI_in (show z < 6 by omega) (by decide)), nI_clamp (by omega), show nI z + (1 : Int32) = nI (z + 1) from na_add z 1]
    exact h
theorem q_look44 {r : Nat → Int32} {F0 : Int32} {S : Nat → Bool} {v : Nat} (k30 : (Nat → Int32) → (Nat → Int32) → Int32 → Int32 → Int32 → Int32 → Int32 → Option (Int32 × (Nat → Int32) × (Nat → Int32))) (hi : i < 7) (hv : v < 1000) : ∀ (d w fu : Nat) (A : Nat → Int32), w + d = 7 → d < fu → ∃ A' : Nat → Int32, f_X9_look_b44 k30 m fu r A (nI i) (nI (msk S 6)) (sel F0 (lkT m i S) (cod 100 7) (7 * v + w)).1 (sel F0 (lkT m i S) (cod 100 7) (7 * v + w)).2 (nI v) (nI w) = k30 r A' (nI i) (nI (msk S 6)) (sel F0 (lkT m i S) (cod 100 7) (7 * (v + 1))).1 (sel F0 (lkT m i S) (cod 100 7) (7 * (v + 1))).2 (nI (v + 1)) := by
  intro d
  induction d with
  | zero =>
    intro w fu A h1 h2
    obtain ⟨fu, rfl⟩ : ∃ k, fu = k + 1 := ⟨fu - 1, by omega⟩
    refine ⟨A, ?_⟩
    rw [f_X9_look_b44, show w = 7 by omega, if_pos (show (7 : Int32) ≤ nI 7 by decide), show nI v + (1 : Int32) = nI (v + 1) from na_add v 1] <;> rfl
  | succ d ih =>
    intro w fu A h1 h2
    obtain ⟨fu, rfl⟩ : ∃ k, fu = k + 1 := ⟨fu - 1, by omega⟩
    have e1 : (7 * v + w) / 7 = v := by omega
    have e2 : (7 * v + w) % 7 = w := by omega
    have hT : lkT m i S (7 * v + w) = nI (mxa S (fun k => lk (nI k) (m (5 + i)) (nI v) (nI w)) 6) := by
      unfold lkT; rw [e1, e2]
    have hc : cod 100 7 (7 * v + w) = nI (100 * v + w) := by unfold cod; rw [e1, e2]
    obtain ⟨A', h⟩ := ih (w + 1) fu (fil A (fun k => lk (nI k) (m (5 + i)) (nI v) (nI w)) 6) (by omega) (by omega)
    rw [← Nat.add_assoc, sel, hT, hc] at h
    refine ⟨A', ?_⟩
    have h54 := q_look54' (m := m) (r := r) (S := S) (v := v) (w := w) (b := (sel F0 (lkT m i S) (cod 100 7) (7 * v + w)).1) (f := (sel F0 (lkT m i S) (cod 100 7) (7 * v + w)).2) A k30 (f_X9_look_b44 k30 m fu) hi 6 0 s_fuel (by omega) (by unfold s_fuel; omega)
    rw [fil_zero] at h54
    rw [f_X9_look_b44, if_neg (show ¬ (7 : Int32) ≤ nI w from nI_ge (b := 7) (by omega) (by decide))]
    refine h54.trans ?_
    by_cases z : (sel F0 (lkT m i S) (cod 100 7) (7 * v + w)).2 ≤ nI (mxa S (fun k => lk (nI k) (m (5 + i)) (nI v) (nI w)) 6)
    · rw [if_pos z] at h ⊢; exact h
    · rw [if_neg z] at h ⊢; exact h
theorem q_look30 {r : Nat → Int32} {F0 : Int32} {S : Nat → Bool} (hi : i < 7) (hs : msk S 6 ≠ 0) : ∀ (d v fu : Nat) (A : Nat → Int32), v + d = 10 → d < fu → ∃ A' : Nat → Int32, f_X9_look_b30 m fu r A (nI i) (nI (msk S 6)) (sel F0 (lkT m i S) (cod 100 7) (7 * v)).1 (sel F0 (lkT m i S) (cod 100 7) (7 * v)).2 (nI v) = some ((sel F0 (lkT m i S) (cod 100 7) 70).1, r, A') := by
  have hl := msk_lt S 6
  intro d
  induction d with
  | zero =>
    intro v fu A h1 h2
    obtain ⟨fu, rfl⟩ : ∃ k, fu = k + 1 := ⟨fu - 1, by omega⟩
    exact ⟨A, by rw [f_X9_look_b30, show v = 10 by omega, if_pos (show (10 : Int32) ≤ nI 10 by decide)]⟩
  | succ d ih =>
    intro v fu A h1 h2
    obtain ⟨fu, rfl⟩ : ∃ k, fu = k + 1 := ⟨fu - 1, by omega⟩
    obtain ⟨A1, h⟩ := q_look44 (m := m) (r := r) (F0 := F0) (S := S) (v := v) (f_X9_look_b30 m fu) hi (by omega) 7 0 s_fuel A (by omega) (by unfold s_fuel; omega)
    obtain ⟨A2, h'⟩ := ih (v + 1) fu A1 (by omega) (by omega)
    refine ⟨A2, ?_⟩
    rw [f_X9_look_b30, if_neg (show ¬ (10 : Int32) ≤ nI v from nI_ge (b := 10) (by omega) (by decide)), if_neg (nI_nle (by omega) (by omega))]
    exact h.trans h'
theorem lkT_lt (S : Nat → Bool) {F : Nat} (hF : 6 < F) (hF2 : F < 2 ^ 31) : lkT m i S 0 < nI F := by
  have := mxa_le S (fun k => lk (nI k) (m (5 + i)) (nI (0 / 7)) (nI (0 % 7))) 6
  exact nI_lt (by omega) hF2
theorem q_lookBoth {r : Nat → Int32} {R : Nat} (A B : Nat → Int32) (hN : GN rc m) (hr : rn = nI R) (hm2 : m 2 = nI R) (hR : R ≤ 6) (hG : GG gc m) (hg : gn = nI n) (hm : m 0 = nI n) (hn : n ≤ 7) (hi : i < n) : ∃ (v : Int32) (A' B' : Nat → Int32), f_X7_bestLook gc gn rc rn A (nI i) = some (v, A') ∧ f_X9_look_b30 m s_fuel r B (nI i) (nI (msk (gkN m i R) 6)) (-1) (1000000 : Int32) (0 : Int32) = some (v, r, B') := by
  have hl := msk_lt (gkN m i R) 6
  unfold f_X7_bestLook
  rw [q_gk8 i hN hr hm2 hR, b_some]
  by_cases z : msk (gkN m i R) 6 = 0
  · refine ⟨-1, A, B, ?_, ?_⟩
    · rw [if_pos (show nI (msk (gkN m i R) 6) = 0 by rw [z] <;> rfl)]
    · rw [z] <;> rfl
  · obtain ⟨A', h8⟩ := q_look23 (rc := rc) (rn := rn) (F0 := nI 7) (S := gkN m i R) hG hg hm hn hi 10 0 s_fuel A (by omega) (by unfold s_fuel; omega)
    obtain ⟨B', h9⟩ := q_look30 (m := m) (r := r) (F0 := nI 1000000) (S := gkN m i R) (i := i) (by omega) z 10 0 s_fuel B (by omega) (by unfold s_fuel; omega)
    have e := sel_eq (F0 := nI 7) (F1 := nI 1000000) (f := lkT m i (gkN m i R)) (c := cod 100 7) (lkT_lt _ (by decide) (by decide)) (lkT_lt _ (by decide) (by decide)) 70 (by decide)
    rw [← e] at h9
    refine ⟨(sel (nI 7) (lkT m i (gkN m i R)) (cod 100 7) 70).1, A', B', ?_, h9⟩
    rw [if_neg (fun q => by exact z ((nI_eq (by omega) (by decide)).mp (show nI (msk (gkN m i R) 6) = nI 0 from q)))]; exact h8
end QK
section QQ
variable {kc m : Nat → Int32} {kn : Int32}
theorem q_ask40 {S : Nat → Bool} {v w : Nat} {b f : Int32} (A : Nat → Int32) (k21 : (Nat → Int32) → Int32 → Int32 → Int32 → Int32 → Option (Int32 × (Nat → Int32))) (k30 : (Nat → Int32) → Int32 → Int32 → Int32 → Int32 → Int32 → Option (Int32 × (Nat → Int32))) : ∀ (d z fu : Nat), z + d = 6 → d < fu → f_X7_bestQuestion_b40 k21 k30 kc kn fu (fil A (fun k => ps (nI k) (nI v) (nI w)) z) (nI (msk S 6)) b f (nI v) (nI w) (nI z) = if f ≤ nI (mxa S (fun k => ps (nI k) (nI v) (nI w)) 6) then k30 (fil A (fun k => ps (nI k) (nI v) (nI w)) 6) (nI (msk S 6)) b f (nI v) (nI (w + 1)) else k30 (fil A (fun k => ps (nI k) (nI v) (nI w)) 6) (nI (msk S 6)) (nI (10 * v + w)) (nI (mxa S (fun k => ps (nI k) (nI v) (nI w)) 6)) (nI v) (nI (w + 1)) := by
  intro d
  induction d with
  | zero =>
    intro z fu h1 h2
    obtain ⟨fu, rfl⟩ : ∃ k, fu = k + 1 := ⟨fu - 1, by omega⟩
    rw [f_X7_bestQuestion_b40, show z = 6 by omega, if_pos (show (6 : Int32) ≤ nI 6 by decide), q_ma8, b_some, mxa_fil]
    unfold f_X7_bestQuestion_b96
    rw [show nI w + (1 : Int32) = nI (w + 1) from na_add w 1, show (10 : Int32) * nI v = nI (10 * v) from na_mul 10 v, na_add]
  | succ d ih =>
    intro z fu h1 h2
    obtain ⟨fu, rfl⟩ : ∃ k, fu = k + 1 := ⟨fu - 1, by omega⟩
    have h := ih (z + 1) fu (by omega) (by omega)
    rw [← fil_step] at h
    rw [f_X7_bestQuestion_b40, if_neg (show ¬ (6 : Int32) ≤ nI z from nI_ge (b := 6) (by omega) (by decide)), q_ps, b_some, if_pos (nI_in (show z < 6 by omega) (by decide)), nI_clamp (by omega), show nI z + (1 : Int32) = nI (z + 1) from na_add z 1]
    exact h
theorem q_ask30 {F0 : Int32} {S : Nat → Bool} {v : Nat} (k21 : (Nat → Int32) → Int32 → Int32 → Int32 → Int32 → Option (Int32 × (Nat → Int32))) (hv : v < 1000) : ∀ (d w fu : Nat) (A : Nat → Int32), w + d = 10 → d < fu → ∃ A' : Nat → Int32, f_X7_bestQuestion_b30 k21 kc kn fu A (nI (msk S 6)) (sel F0 (psT S) (cod 10 10) (10 * v + w)).1 (sel F0 (psT S) (cod 10 10) (10 * v + w)).2 (nI v) (nI w) = k21 A' (nI (msk S 6)) (sel F0 (psT S) (cod 10 10) (10 * (v + 1))).1 (sel F0 (psT S) (cod 10 10) (10 * (v + 1))).2 (nI (v + 1)) := by
  intro d
  induction d with
  | zero =>
    intro w fu A h1 h2
    obtain ⟨fu, rfl⟩ : ∃ k, fu = k + 1 := ⟨fu - 1, by omega⟩
    refine ⟨A, ?_⟩
    rw [f_X7_bestQuestion_b30, show w = 10 by omega, if_pos (show (9 : Int32) < nI 10 by decide), show nI v + (1 : Int32) = nI (v + 1) from na_add v 1] <;> rfl
  | succ d ih =>
    intro w fu A h1 h2
    obtain ⟨fu, rfl⟩ : ∃ k, fu = k + 1 := ⟨fu - 1, by omega⟩
    have e1 : (10 * v + w) / 10 = v := by omega
    have e2 : (10 * v + w) % 10 = w := by omega
    have hT : psT S (10 * v + w) = nI (mxa S (fun k => ps (nI k) (nI v) (nI w)) 6) := by unfold psT; rw [e1, e2]
    have hc : cod 10 10 (10 * v + w) = nI (10 * v + w) := by unfold cod; rw [e1, e2]
    obtain ⟨A', h⟩ := ih (w + 1) fu (fil A (fun k => ps (nI k) (nI v) (nI w)) 6) (by omega) (by omega)
    rw [← Nat.add_assoc, sel, hT, hc] at h
    refine ⟨A', ?_⟩
    have h54 := q_ask40 (kc := kc) (kn := kn) (S := S) (v := v) (w := w) (b := (sel F0 (psT S) (cod 10 10) (10 * v + w)).1) (f := (sel F0 (psT S) (cod 10 10) (10 * v + w)).2) A k21 (f_X7_bestQuestion_b30 k21 kc kn fu) 6 0 s_fuel (by omega) (by unfold s_fuel; omega)
    rw [fil_zero] at h54
    rw [f_X7_bestQuestion_b30, if_neg (show ¬ (9 : Int32) < nI w from nI_nlt (b := w) (a := 9) (by omega) (by omega))]
    refine h54.trans ?_
    by_cases z : (sel F0 (psT S) (cod 10 10) (10 * v + w)).2 ≤ nI (mxa S (fun k => ps (nI k) (nI v) (nI w)) 6)
    · rw [if_pos z] at h ⊢; exact h
    · rw [if_neg z] at h ⊢; exact h
theorem q_ask21 {F0 : Int32} {S : Nat → Bool} : ∀ (d v fu : Nat) (A : Nat → Int32), v + d = 5 → d < fu → ∃ A' : Nat → Int32, f_X7_bestQuestion_b21 kc kn fu A (nI (msk S 6)) (sel F0 (psT S) (cod 10 10) (10 * v)).1 (sel F0 (psT S) (cod 10 10) (10 * v)).2 (nI v) = some ((sel F0 (psT S) (cod 10 10) 50).1, A') := by
  intro d
  induction d with
  | zero =>
    intro v fu A h1 h2
    obtain ⟨fu, rfl⟩ : ∃ k, fu = k + 1 := ⟨fu - 1, by omega⟩
    exact ⟨A, by rw [f_X7_bestQuestion_b21, show v = 5 by omega, if_pos (show (4 : Int32) < nI 5 by decide)]⟩
  | succ d ih =>
    intro v fu A h1 h2
    obtain ⟨fu, rfl⟩ : ∃ k, fu = k + 1 := ⟨fu - 1, by omega⟩
    obtain ⟨A1, h⟩ := q_ask30 (kc := kc) (kn := kn) (F0 := F0) (S := S) (v := v) (f_X7_bestQuestion_b21 kc kn fu) (by omega) 10 0 s_fuel A (by omega) (by unfold s_fuel; omega)
    obtain ⟨A2, h'⟩ := ih (v + 1) fu A1 (by omega) (by omega)
    refine ⟨A2, ?_⟩
    rw [f_X7_bestQuestion_b21, if_neg (show ¬ (4 : Int32) < nI v from nI_nlt (b := v) (a := 4) (by omega) (by omega))]
    exact h.trans h'
theorem q_ask36 {S : Nat → Bool} {v w : Nat} {b f : Int32} (A : Nat → Int32) (k13 : (Nat → Int32) → Int32 → Int32 → Int32 → Int32 → Option (Int32 × (Nat → Int32))) (k26 : (Nat → Int32) → Int32 → Int32 → Int32 → Int32 → Int32 → Option (Int32 × (Nat → Int32))) : ∀ (d z fu : Nat), z + d = 6 → d < fu → f_X9_ask_b36 k13 k26 m fu (fil A (fun k => ps (nI k) (nI v) (nI w)) z) (nI (msk S 6)) b f (nI v) (nI w) (nI z) = if f ≤ nI (mxa S (fun k => ps (nI k) (nI v) (nI w)) 6) then k26 (fil A (fun k => ps (nI k) (nI v) (nI w)) 6) (nI (msk S 6)) b f (nI v) (nI (w + 1)) else k26 (fil A (fun k => ps (nI k) (nI v) (nI w)) 6) (nI (msk S 6)) (nI (10 * v + w)) (nI (mxa S (fun k => ps (nI k) (nI v) (nI w)) 6)) (nI v) (nI (w + 1)) := by
  intro d
  induction d with
  | zero =>
    intro z fu h1 h2
    obtain ⟨fu, rfl⟩ : ∃ k, fu = k + 1 := ⟨fu - 1, by omega⟩
    rw [f_X9_ask_b36, show z = 6 by omega, if_pos (show (6 : Int32) ≤ nI 6 by decide), q_ma9, b_some, mxa_fil]
    unfold f_X9_ask_b90 f_X9_ask_b103
    rw [show nI w + (1 : Int32) = nI (w + 1) from na_add w 1, show (10 : Int32) * nI v = nI (10 * v) from na_mul 10 v, na_add]
    by_cases y : f ≤ nI (mxa S (fun k => ps (nI k) (nI v) (nI w)) 6)
    · rw [if_pos y, if_pos y, if_pos y]
    · rw [if_neg y, if_neg y, if_neg y]
  | succ d ih =>
    intro z fu h1 h2
    obtain ⟨fu, rfl⟩ : ∃ k, fu = k + 1 := ⟨fu - 1, by omega⟩
    have h := ih (z + 1) fu (by omega) (by omega)
    rw [← fil_step] at h
    rw [f_X9_ask_b36, if_neg (show ¬ (6 : Int32) ≤ nI z from nI_ge (b := 6) (by omega) (by decide)), q_ps9, b_some, if_pos (nI_in (show z < 6 by omega) (by decide)), nI_clamp (by omega), show nI z + (1 : Int32) = nI (z + 1) from na_add z 1]
    exact h
theorem q_ask26 {F0 : Int32} {S : Nat → Bool} {v : Nat} (k13 : (Nat → Int32) → Int32 → Int32 → Int32 → Int32 → Option (Int32 × (Nat → Int32))) (hv : v < 1000) : ∀ (d w fu : Nat) (A : Nat → Int32), w + d = 10 → d < fu → ∃ A' : Nat → Int32, f_X9_ask_b26 k13 m fu A (nI (msk S 6)) (sel F0 (psT S) (cod 10 10) (10 * v + w)).1 (sel F0 (psT S) (cod 10 10) (10 * v + w)).2 (nI v) (nI w) = k13 A' (nI (msk S 6)) (sel F0 (psT S) (cod 10 10) (10 * (v + 1))).1 (sel F0 (psT S) (cod 10 10) (10 * (v + 1))).2 (nI (v + 1)) := by
  intro d
  induction d with
  | zero =>
    intro w fu A h1 h2
    obtain ⟨fu, rfl⟩ : ∃ k, fu = k + 1 := ⟨fu - 1, by omega⟩
    refine ⟨A, ?_⟩
    rw [f_X9_ask_b26, show w = 10 by omega, if_pos (show (10 : Int32) ≤ nI 10 by decide), show nI v + (1 : Int32) = nI (v + 1) from na_add v 1] <;> rfl
  | succ d ih =>
    intro w fu A h1 h2
    obtain ⟨fu, rfl⟩ : ∃ k, fu = k + 1 := ⟨fu - 1, by omega⟩
    have e1 : (10 * v + w) / 10 = v := by omega
    have e2 : (10 * v + w) % 10 = w := by omega
    have hT : psT S (10 * v + w) = nI (mxa S (fun k => ps (nI k) (nI v) (nI w)) 6) := by unfold psT; rw [e1, e2]
    have hc : cod 10 10 (10 * v + w) = nI (10 * v + w) := by unfold cod; rw [e1, e2]
    obtain ⟨A', h⟩ := ih (w + 1) fu (fil A (fun k => ps (nI k) (nI v) (nI w)) 6) (by omega) (by omega)
    rw [← Nat.add_assoc, sel, hT, hc] at h
    refine ⟨A', ?_⟩
    have h54 := q_ask36 (m := m) (S := S) (v := v) (w := w) (b := (sel F0 (psT S) (cod 10 10) (10 * v + w)).1) (f := (sel F0 (psT S) (cod 10 10) (10 * v + w)).2) A k13 (f_X9_ask_b26 k13 m fu) 6 0 s_fuel (by omega) (by unfold s_fuel; omega)
    rw [fil_zero] at h54
    rw [f_X9_ask_b26, if_neg (show ¬ (10 : Int32) ≤ nI w from nI_ge (b := 10) (by omega) (by decide))]
    refine h54.trans ?_
    by_cases z : (sel F0 (psT S) (cod 10 10) (10 * v + w)).2 ≤ nI (mxa S (fun k => ps (nI k) (nI v) (nI w)) 6)
    · rw [if_pos z] at h ⊢; exact h
    · rw [if_neg z] at h ⊢; exact h
theorem q_ask13 {F0 : Int32} {S : Nat → Bool} (hs : msk S 6 ≠ 0) : ∀ (d v fu : Nat) (A : Nat → Int32), v + d = 5 → d < fu → ∃ A' : Nat → Int32, f_X9_ask_b13 m fu A (nI (msk S 6)) (sel F0 (psT S) (cod 10 10) (10 * v)).1 (sel F0 (psT S) (cod 10 10) (10 * v)).2 (nI v) = some ((sel F0 (psT S) (cod 10 10) 50).1, A') := by
  have hl := msk_lt S 6
  intro d
  induction d with
  | zero =>
    intro v fu A h1 h2
    obtain ⟨fu, rfl⟩ : ∃ k, fu = k + 1 := ⟨fu - 1, by omega⟩
    exact ⟨A, by rw [f_X9_ask_b13, show v = 5 by omega, if_pos (show (5 : Int32) ≤ nI 5 by decide)]⟩
  | succ d ih =>
    intro v fu A h1 h2
    obtain ⟨fu, rfl⟩ : ∃ k, fu = k + 1 := ⟨fu - 1, by omega⟩
    obtain ⟨A1, h⟩ := q_ask26 (m := m) (F0 := F0) (S := S) (v := v) (f_X9_ask_b13 m fu) (by omega) 10 0 s_fuel A (by omega) (by unfold s_fuel; omega)
    obtain ⟨A2, h'⟩ := ih (v + 1) fu A1 (by omega) (by omega)
    refine ⟨A2, ?_⟩
    rw [f_X9_ask_b13, if_neg (show ¬ (5 : Int32) ≤ nI v from nI_ge (b := 5) (by omega) (by decide)), if_neg (nI_nle (by omega) (by omega))]
    exact h.trans h'
theorem psT_lt (S : Nat → Bool) {F : Nat} (hF : 6 < F) (hF2 : F < 2 ^ 31) : psT S 0 < nI F := by
  have := mxa_le S (fun k => ps (nI k) (nI (0 / 10)) (nI (0 % 10))) 6
  exact nI_lt (by omega) hF2
theorem q_askBoth {R : Nat} (A B : Nat → Int32) (hK : GK kc m) (hr : kn = nI R) (hm : m 3 = nI R) (hR : R ≤ 6) : ∃ (v : Int32) (A' B' : Nat → Int32), f_X7_bestQuestion kc kn A = some (v, A') ∧ f_X9_ask m B = some (v, B') := by
  have hl := msk_lt (gkK m R) 6
  unfold f_X7_bestQuestion f_X9_ask
  rw [q_hk8 hK hr hm hR, b_some, q_hk9 hm hR, b_some]
  by_cases z : msk (gkK m R) 6 = 0
  · refine ⟨-1, A, B, ?_, ?_⟩
    · rw [if_pos (show nI (msk (gkK m R) 6) = 0 by rw [z] <;> rfl)]
    · rw [z] <;> rfl
  · obtain ⟨A', h8⟩ := q_ask21 (kc := kc) (kn := kn) (F0 := nI 7) (S := gkK m R) 5 0 s_fuel A (by omega) (by unfold s_fuel; omega)
    obtain ⟨B', h9⟩ := q_ask13 (m := m) (F0 := nI 1000000) (S := gkK m R) z 5 0 s_fuel B (by omega) (by unfold s_fuel; omega)
    have e := sel_eq (F0 := nI 7) (F1 := nI 1000000) (f := psT (gkK m R)) (c := cod 10 10) (psT_lt _ (by decide) (by decide)) (psT_lt _ (by decide) (by decide)) 50 (by decide)
    rw [← e] at h9
    refine ⟨(sel (nI 7) (psT (gkK m R)) (cod 10 10) 50).1, A', B', ?_, h9⟩
    rw [if_neg (fun q => by exact z ((nI_eq (by omega) (by decide)).mp (show nI (msk (gkK m R) 6) = nI 0 from q)))]; exact h8
end QQ
