-- InnTurned$Door.toGuest(IZ)I
abbrev rm_X0_toGuest : Room := { frames := 0, cells := 0, slots := 0, locals := 0 }
def f_X0_toGuest    (p1 : Int32) (p2 : Int32) : Option (Int32) := (if (p1 &&& (1 : Int32)) = 0 then some ((0 : Int32)) else (if p2 = 0 then some ((5 : Int32)) else (if (p1 &&& (2 : Int32)) = 0 then some ((5 : Int32)) else some ((-3 : Int32)))))
set_option maxHeartbeats 4000000 in
set_option maxRecDepth 100000 in
theorem c_X0_toGuest (l : Launch) (D : va_G) (cI cB cZ : ClassId) (p1 : Int32) (p2 : Int32) (rv : Int32) (sz : Nat) (hf : f_X0_toGuest p1 p2 = some rv) : Met l yX0_toGuest wsX0_toGuest rm_X0_toGuest (sPc D vwCl (s_tys cI cB cZ) [.int p1, .int p2] ([] : va_W) sz) (sQi D vwCl ([] : va_W) ([] : va_W) sz rv) 0 0 (va_A ([] : va_W) sz) := by
  refine s_enter_n (cc := cX0_toGuest) (nL := 2) (r := rv) (by decide) rfl (Nat.le_of_ble_eq_true rfl) ?_
  intro p e s m args below meth c A Q C0 hend ls hl hS
  have h := hf
  clear hf
  replace hl : lv_has ls 2 [(0, .int p1), (1, .int p2)] := hl
  unfold f_X0_toGuest at h
  obtain ⟨hx, hb, hml, hown, hts, hK, hA⟩ := id C0
  refine lv_iload_n hx hb dX0_toGuest_0 rfl (lv_at hl 0 rfl) ?_
  refine lv_iconst (v := (1 : Int32)) hx hb dX0_toGuest_1 (by decide) ?_
  refine lv_iand hx hb dX0_toGuest_2 ?_
  refine lv_if_ne (tgt := 8) hx hb dX0_toGuest_3 (by decide) (fun c1 => ?_) (fun c1 => ?_)
  · replace h := s_no c1 h
    refine lv_iload_n hx hb dX0_toGuest_8 rfl (lv_at hl 1 rfl) ?_
    refine lv_if_eq (tgt := 23) hx hb dX0_toGuest_9 (by decide) (fun c2 => ?_) (fun c2 => ?_)
    · replace h := s_yes c2 h
      refine lv_iconst (v := (5 : Int32)) hx hb dX0_toGuest_23 (by decide) ?_
      obtain rfl := Option.some.inj h
      exact hend _ _ _ _ dX0_toGuest_24 hS
    replace h := s_no c2 h
    refine lv_iload_n hx hb dX0_toGuest_12 rfl (lv_at hl 0 rfl) ?_
    refine lv_iconst (v := (2 : Int32)) hx hb dX0_toGuest_13 (by decide) ?_
    refine lv_iand hx hb dX0_toGuest_14 ?_
    refine lv_if_eq (tgt := 23) hx hb dX0_toGuest_15 (by decide) (fun c3 => ?_) (fun c3 => ?_)
    · replace h := s_yes c3 h
      refine lv_iconst (v := (5 : Int32)) hx hb dX0_toGuest_23 (by decide) ?_
      obtain rfl := Option.some.inj h
      exact hend _ _ _ _ dX0_toGuest_24 hS
    replace h := s_no c3 h
    refine lv_bipush (v := (-3 : Int32)) hx hb dX0_toGuest_18 (by decide) ?_
    refine lv_goto (tgt := 24) hx hb dX0_toGuest_20 (by decide) ?_
    obtain rfl := Option.some.inj h
    exact hend _ _ _ _ dX0_toGuest_24 hS
  replace h := s_yes c1 h
  refine lv_iconst (v := (0 : Int32)) hx hb dX0_toGuest_6 (by decide) ?_
  obtain rfl := Option.some.inj h
  exact hend _ _ _ _ dX0_toGuest_7 hS

-- InnTurned$Door.toHost(IZ)I
abbrev rm_X0_toHost : Room := { frames := 0, cells := 0, slots := 0, locals := 0 }
def f_X0_toHost_b15    (l0 : Int32) (t0 : Int32) : Option (Int32) := (if (l0 &&& (2 : Int32)) = 0 then (if t0 = 0 then some ((0 : Int32)) else some ((-4 : Int32))) else (if t0 = 0 then some ((-2 : Int32)) else some ((4 : Int32))))
set_option maxHeartbeats 4000000 in
set_option maxRecDepth 100000 in
theorem w_X0_toHost_b15 {p : Program} {l : Launch} {e : Env} {s : State} {m : MethodId} {args : Array Value} {below : List Frame} {meth : Method} {c : Code} {A : Nat → Prop} {Q : State → Prop} {D : va_G} {cI cB cZ : ClassId} (C0 : Cx p s m args c cX0_toHost 3 RX0 wsX0_toHost D (s_tys cI cB cZ) A) {rv : Int32} (hend : ∀ (pc : Nat) (H : Heap) (locs : List Loc) (ls : Array Slot), decode cX0_toHost pc = .ok (.ireturn, 1) → sS D vwCl A s.heap ([] : va_W) H locs → W p l e rm_X0_toHost s m args below meth c H locs 0 0 Q (F0 m pc ls [.int rv])) : ∀  (l0 : Int32) (t0 : Int32) (H : Heap) (locs : List Loc) (ls : Array Slot), f_X0_toHost_b15  l0 t0 = some rv → sS D vwCl A s.heap ([] : va_W) H locs → lv_has ls 3 [(0, .int l0)] → W p l e rm_X0_toHost s m args below meth c H locs 0 0 Q (F0 m 15 ls [.int t0]) := by
  obtain ⟨hx, hb, hml, hown, hts, hK, hA⟩ := id C0
  intro l0 t0 H locs ls h hS hl
  unfold f_X0_toHost_b15 at h
  refine lv_istore_n (lv' := [(2, .int t0), (0, .int l0)]) hx hb dX0_toHost_15 rfl hl (by decide) rfl (fun ls hl => ?_)
  refine lv_iload_n hx hb dX0_toHost_16 rfl (lv_at hl 1 rfl) ?_
  refine lv_iconst (v := (2 : Int32)) hx hb dX0_toHost_17 (by decide) ?_
  refine lv_iand hx hb dX0_toHost_18 ?_
  refine lv_if_eq (tgt := 33) hx hb dX0_toHost_19 (by decide) (fun c1 => ?_) (fun c1 => ?_)
  · replace h := s_yes c1 h
    refine lv_iload_n hx hb dX0_toHost_33 rfl (lv_at hl 0 rfl) ?_
    refine lv_if_eq (tgt := 42) hx hb dX0_toHost_34 (by decide) (fun c2 => ?_) (fun c2 => ?_)
    · replace h := s_yes c2 h
      refine lv_iconst (v := (0 : Int32)) hx hb dX0_toHost_42 (by decide) ?_
      obtain rfl := Option.some.inj h
      exact hend _ _ _ _ dX0_toHost_43 hS
    replace h := s_no c2 h
    refine lv_bipush (v := (-4 : Int32)) hx hb dX0_toHost_37 (by decide) ?_
    refine lv_goto (tgt := 43) hx hb dX0_toHost_39 (by decide) ?_
    obtain rfl := Option.some.inj h
    exact hend _ _ _ _ dX0_toHost_43 hS
  replace h := s_no c1 h
  refine lv_iload_n hx hb dX0_toHost_22 rfl (lv_at hl 0 rfl) ?_
  refine lv_if_eq (tgt := 30) hx hb dX0_toHost_23 (by decide) (fun c3 => ?_) (fun c3 => ?_)
  · replace h := s_yes c3 h
    refine lv_bipush (v := (-2 : Int32)) hx hb dX0_toHost_30 (by decide) ?_
    obtain rfl := Option.some.inj h
    exact hend _ _ _ _ dX0_toHost_32 hS
  replace h := s_no c3 h
  refine lv_iconst (v := (4 : Int32)) hx hb dX0_toHost_26 (by decide) ?_
  refine lv_goto (tgt := 32) hx hb dX0_toHost_27 (by decide) ?_
  obtain rfl := Option.some.inj h
  exact hend _ _ _ _ dX0_toHost_32 hS
def f_X0_toHost_b14    (l0 : Int32) : Option (Int32) := f_X0_toHost_b15   l0 (0 : Int32)
set_option maxHeartbeats 4000000 in
set_option maxRecDepth 100000 in
theorem w_X0_toHost_b14 {p : Program} {l : Launch} {e : Env} {s : State} {m : MethodId} {args : Array Value} {below : List Frame} {meth : Method} {c : Code} {A : Nat → Prop} {Q : State → Prop} {D : va_G} {cI cB cZ : ClassId} (C0 : Cx p s m args c cX0_toHost 3 RX0 wsX0_toHost D (s_tys cI cB cZ) A) {rv : Int32} (hend : ∀ (pc : Nat) (H : Heap) (locs : List Loc) (ls : Array Slot), decode cX0_toHost pc = .ok (.ireturn, 1) → sS D vwCl A s.heap ([] : va_W) H locs → W p l e rm_X0_toHost s m args below meth c H locs 0 0 Q (F0 m pc ls [.int rv])) : ∀  (l0 : Int32) (H : Heap) (locs : List Loc) (ls : Array Slot), f_X0_toHost_b14  l0 = some rv → sS D vwCl A s.heap ([] : va_W) H locs → lv_has ls 3 [(0, .int l0)] → W p l e rm_X0_toHost s m args below meth c H locs 0 0 Q (F0 m 14 ls []) := by
  obtain ⟨hx, hb, hml, hown, hts, hK, hA⟩ := id C0
  intro l0 H locs ls h hS hl
  unfold f_X0_toHost_b14 at h
  refine lv_iconst (v := (0 : Int32)) hx hb dX0_toHost_14 (by decide) ?_
  exact w_X0_toHost_b15 C0 hend  l0 (0 : Int32) _ _ _ h hS (lv_sub hl [0] rfl)
def f_X0_toHost    (p1 : Int32) (p2 : Int32) : Option (Int32) := (if p2 = 0 then f_X0_toHost_b14   p1 else (if (p1 &&& (1 : Int32)) = 0 then f_X0_toHost_b14   p1 else f_X0_toHost_b15   p1 (1 : Int32)))
set_option maxHeartbeats 4000000 in
set_option maxRecDepth 100000 in
theorem c_X0_toHost (l : Launch) (D : va_G) (cI cB cZ : ClassId) (p1 : Int32) (p2 : Int32) (rv : Int32) (sz : Nat) (hf : f_X0_toHost p1 p2 = some rv) : Met l yX0_toHost wsX0_toHost rm_X0_toHost (sPc D vwCl (s_tys cI cB cZ) [.int p1, .int p2] ([] : va_W) sz) (sQi D vwCl ([] : va_W) ([] : va_W) sz rv) 0 0 (va_A ([] : va_W) sz) := by
  refine s_enter_n (cc := cX0_toHost) (nL := 3) (r := rv) (by decide) rfl (Nat.le_of_ble_eq_true rfl) ?_
  intro p e s m args below meth c A Q C0 hend ls hl hS
  have h := hf
  clear hf
  replace hl : lv_has ls 3 [(0, .int p1), (1, .int p2)] := hl
  unfold f_X0_toHost at h
  obtain ⟨hx, hb, hml, hown, hts, hK, hA⟩ := id C0
  refine lv_iload_n hx hb dX0_toHost_0 rfl (lv_at hl 1 rfl) ?_
  refine lv_if_eq (tgt := 14) hx hb dX0_toHost_1 (by decide) (fun c4 => ?_) (fun c4 => ?_)
  · replace h := s_yes c4 h
    exact w_X0_toHost_b14 C0 hend  p1 _ _ _ h hS (lv_sub hl [0] rfl)
  replace h := s_no c4 h
  refine lv_iload_n hx hb dX0_toHost_4 rfl (lv_at hl 0 rfl) ?_
  refine lv_iconst (v := (1 : Int32)) hx hb dX0_toHost_5 (by decide) ?_
  refine lv_iand hx hb dX0_toHost_6 ?_
  refine lv_if_eq (tgt := 14) hx hb dX0_toHost_7 (by decide) (fun c5 => ?_) (fun c5 => ?_)
  · replace h := s_yes c5 h
    exact w_X0_toHost_b14 C0 hend  p1 _ _ _ h hS (lv_sub hl [0] rfl)
  replace h := s_no c5 h
  refine lv_iconst (v := (1 : Int32)) hx hb dX0_toHost_10 (by decide) ?_
  refine lv_goto (tgt := 15) hx hb dX0_toHost_11 (by decide) ?_
  exact w_X0_toHost_b15 C0 hend  p1 (1 : Int32) _ _ _ h hS (lv_sub hl [0] rfl)

-- InnTurned$Door.pairsThatRest(Z)I
abbrev rm_X0_pairsThatRest : Room := { frames := 1, cells := 0, slots := 0, locals := 22 }
def f_X0_pairsThatRest_b67 (k_b4 : Int32 → Int32 → Int32 → Option (Int32))    (l0 : Int32) (l1 : Int32) (l2 : Int32) : Option (Int32) := k_b4 l0 l1 (l2 + (1 : Int32))
set_option maxHeartbeats 4000000 in
set_option maxRecDepth 100000 in
theorem w_X0_pairsThatRest_b67 {p : Program} {l : Launch} {e : Env} {s : State} {m : MethodId} {args : Array Value} {below : List Frame} {meth : Method} {c : Code} {A : Nat → Prop} {Q : State → Prop} {D : va_G} {cI cB cZ : ClassId} (C0 : Cx p s m args c cX0_pairsThatRest 5 RX0 wsX0_pairsThatRest D (s_tys cI cB cZ) A) {rv : Int32} (hend : ∀ (pc : Nat) (H : Heap) (locs : List Loc) (ls : Array Slot), decode cX0_pairsThatRest pc = .ok (.ireturn, 1) → sS D vwCl A s.heap ([] : va_W) H locs → W p l e rm_X0_pairsThatRest s m args below meth c H locs 0 0 Q (F0 m pc ls [.int rv])) (k_b4 : Int32 → Int32 → Int32 → Option (Int32)) (hk_b4 : ∀  (l0 : Int32) (l1 : Int32) (l2 : Int32) (H : Heap) (locs : List Loc) (ls : Array Slot), k_b4 l0 l1 l2 = some rv → sS D vwCl A s.heap ([] : va_W) H locs → lv_has ls 5 [(0, .int l0), (1, .int l1), (2, .int l2)] → W p l e rm_X0_pairsThatRest s m args below meth c H locs 0 0 Q (F0 m 4 ls [])) : ∀  (l0 : Int32) (l1 : Int32) (l2 : Int32) (H : Heap) (locs : List Loc) (ls : Array Slot), f_X0_pairsThatRest_b67 k_b4  l0 l1 l2 = some rv → sS D vwCl A s.heap ([] : va_W) H locs → lv_has ls 5 [(0, .int l0), (1, .int l1), (2, .int l2)] → W p l e rm_X0_pairsThatRest s m args below meth c H locs 0 0 Q (F0 m 67 ls []) := by
  obtain ⟨hx, hb, hml, hown, hts, hK, hA⟩ := id C0
  intro l0 l1 l2 H locs ls h hS hl
  unfold f_X0_pairsThatRest_b67 at h
  refine lv_iinc (v := (l2 + (1 : Int32))) (lv' := [(2, .int (l2 + (1 : Int32))), (0, .int l0), (1, .int l1)]) hx hb dX0_pairsThatRest_67 hl (k := 2) rfl rfl (by decide) rfl (fun ls hl => ?_)
  refine lv_goto (tgt := 4) hx hb dX0_pairsThatRest_70 (by decide) ?_
  exact hk_b4 l0 l1 (l2 + (1 : Int32)) _ _ _ h hS (lv_sub hl [1, 2, 0] rfl)
def f_X0_pairsThatRest_b50 (k_b4 : Int32 → Int32 → Int32 → Option (Int32))    (l0 : Int32) (l1 : Int32) (l2 : Int32) (l3 : Int32) (t0 : Int32) : Option (Int32) := (if l3 = 0 then f_X0_pairsThatRest_b67 k_b4  l0 l1 l2 else (if t0 = 0 then f_X0_pairsThatRest_b67 k_b4  l0 l1 l2 else f_X0_pairsThatRest_b67 k_b4  l0 (l1 ||| ((1 : Int32) <<< (l2 &&& 31))) l2))
set_option maxHeartbeats 4000000 in
set_option maxRecDepth 100000 in
theorem w_X0_pairsThatRest_b50 {p : Program} {l : Launch} {e : Env} {s : State} {m : MethodId} {args : Array Value} {below : List Frame} {meth : Method} {c : Code} {A : Nat → Prop} {Q : State → Prop} {D : va_G} {cI cB cZ : ClassId} (C0 : Cx p s m args c cX0_pairsThatRest 5 RX0 wsX0_pairsThatRest D (s_tys cI cB cZ) A) {rv : Int32} (hend : ∀ (pc : Nat) (H : Heap) (locs : List Loc) (ls : Array Slot), decode cX0_pairsThatRest pc = .ok (.ireturn, 1) → sS D vwCl A s.heap ([] : va_W) H locs → W p l e rm_X0_pairsThatRest s m args below meth c H locs 0 0 Q (F0 m pc ls [.int rv])) (k_b4 : Int32 → Int32 → Int32 → Option (Int32)) (hk_b4 : ∀  (l0 : Int32) (l1 : Int32) (l2 : Int32) (H : Heap) (locs : List Loc) (ls : Array Slot), k_b4 l0 l1 l2 = some rv → sS D vwCl A s.heap ([] : va_W) H locs → lv_has ls 5 [(0, .int l0), (1, .int l1), (2, .int l2)] → W p l e rm_X0_pairsThatRest s m args below meth c H locs 0 0 Q (F0 m 4 ls [])) : ∀  (l0 : Int32) (l1 : Int32) (l2 : Int32) (l3 : Int32) (t0 : Int32) (H : Heap) (locs : List Loc) (ls : Array Slot), f_X0_pairsThatRest_b50 k_b4  l0 l1 l2 l3 t0 = some rv → sS D vwCl A s.heap ([] : va_W) H locs → lv_has ls 5 [(0, .int l0), (1, .int l1), (2, .int l2), (3, .int l3)] → W p l e rm_X0_pairsThatRest s m args below meth c H locs 0 0 Q (F0 m 50 ls [.int t0]) := by
  obtain ⟨hx, hb, hml, hown, hts, hK, hA⟩ := id C0
  intro l0 l1 l2 l3 t0 H locs ls h hS hl
  unfold f_X0_pairsThatRest_b50 at h
  refine lv_istore (lv' := [(4, .int t0), (0, .int l0), (1, .int l1), (2, .int l2), (3, .int l3)]) hx hb dX0_pairsThatRest_50 hl (by decide) rfl (fun ls hl => ?_)
  refine lv_iload_n hx hb dX0_pairsThatRest_52 rfl (lv_at hl 4 rfl) ?_
  refine lv_if_eq (tgt := 67) hx hb dX0_pairsThatRest_53 (by decide) (fun c1 => ?_) (fun c1 => ?_)
  · replace h := s_yes c1 h
    exact w_X0_pairsThatRest_b67 C0 hend k_b4 hk_b4 l0 l1 l2 _ _ _ h hS (lv_sub hl [1, 2, 3] rfl)
  replace h := s_no c1 h
  refine lv_iload hx hb dX0_pairsThatRest_56 (lv_at hl 0 rfl) ?_
  refine lv_if_eq (tgt := 67) hx hb dX0_pairsThatRest_58 (by decide) (fun c2 => ?_) (fun c2 => ?_)
  · replace h := s_yes c2 h
    exact w_X0_pairsThatRest_b67 C0 hend k_b4 hk_b4 l0 l1 l2 _ _ _ h hS (lv_sub hl [1, 2, 3] rfl)
  replace h := s_no c2 h
  refine lv_iload_n hx hb dX0_pairsThatRest_61 rfl (lv_at hl 2 rfl) ?_
  refine lv_iconst (v := (1 : Int32)) hx hb dX0_pairsThatRest_62 (by decide) ?_
  refine lv_iload_n hx hb dX0_pairsThatRest_63 rfl (lv_at hl 3 rfl) ?_
  refine lv_ishl hx hb dX0_pairsThatRest_64 ?_
  refine lv_ior hx hb dX0_pairsThatRest_65 ?_
  refine lv_istore_n (lv' := [(1, .int (l1 ||| ((1 : Int32) <<< (l2 &&& 31)))), (4, .int t0), (0, .int l0), (2, .int l2), (3, .int l3)]) hx hb dX0_pairsThatRest_66 rfl hl (by decide) rfl (fun ls hl => ?_)
  exact w_X0_pairsThatRest_b67 C0 hend k_b4 hk_b4 l0 (l1 ||| ((1 : Int32) <<< (l2 &&& 31))) l2 _ _ _ h hS (lv_sub hl [2, 0, 3] rfl)
def f_X0_pairsThatRest_b29 (k_b4 : Int32 → Int32 → Int32 → Option (Int32))    (l0 : Int32) (l1 : Int32) (l2 : Int32) (t0 : Int32) : Option (Int32) := ((f_X0_toHost l2 l0).bind fun q3 => ((f_X0_toHost (l2 ^^^ (2 : Int32)) l0).bind fun q4 => (if q3 < q4 then f_X0_pairsThatRest_b50 k_b4  l0 l1 l2 t0 (0 : Int32) else f_X0_pairsThatRest_b50 k_b4  l0 l1 l2 t0 (1 : Int32))))
set_option maxHeartbeats 4000000 in
set_option maxRecDepth 100000 in
theorem w_X0_pairsThatRest_b29 {p : Program} {l : Launch} {e : Env} {s : State} {m : MethodId} {args : Array Value} {below : List Frame} {meth : Method} {c : Code} {A : Nat → Prop} {Q : State → Prop} {D : va_G} {cI cB cZ : ClassId} (C0 : Cx p s m args c cX0_pairsThatRest 5 RX0 wsX0_pairsThatRest D (s_tys cI cB cZ) A) {rv : Int32} (hend : ∀ (pc : Nat) (H : Heap) (locs : List Loc) (ls : Array Slot), decode cX0_pairsThatRest pc = .ok (.ireturn, 1) → sS D vwCl A s.heap ([] : va_W) H locs → W p l e rm_X0_pairsThatRest s m args below meth c H locs 0 0 Q (F0 m pc ls [.int rv])) (k_b4 : Int32 → Int32 → Int32 → Option (Int32)) (hk_b4 : ∀  (l0 : Int32) (l1 : Int32) (l2 : Int32) (H : Heap) (locs : List Loc) (ls : Array Slot), k_b4 l0 l1 l2 = some rv → sS D vwCl A s.heap ([] : va_W) H locs → lv_has ls 5 [(0, .int l0), (1, .int l1), (2, .int l2)] → W p l e rm_X0_pairsThatRest s m args below meth c H locs 0 0 Q (F0 m 4 ls [])) : ∀  (l0 : Int32) (l1 : Int32) (l2 : Int32) (t0 : Int32) (H : Heap) (locs : List Loc) (ls : Array Slot), f_X0_pairsThatRest_b29 k_b4  l0 l1 l2 t0 = some rv → sS D vwCl A s.heap ([] : va_W) H locs → lv_has ls 5 [(0, .int l0), (1, .int l1), (2, .int l2)] → W p l e rm_X0_pairsThatRest s m args below meth c H locs 0 0 Q (F0 m 29 ls [.int t0]) := by
  obtain ⟨hx, hb, hml, hown, hts, hK, hA⟩ := id C0
  intro l0 l1 l2 t0 H locs ls h hS hl
  unfold f_X0_pairsThatRest_b29 at h
  refine lv_istore_n (lv' := [(3, .int t0), (0, .int l0), (1, .int l1), (2, .int l2)]) hx hb dX0_pairsThatRest_29 rfl hl (by decide) rfl (fun ls hl => ?_)
  refine lv_iload_n hx hb dX0_pairsThatRest_30 rfl (lv_at hl 3 rfl) ?_
  refine lv_iload_n hx hb dX0_pairsThatRest_31 rfl (lv_at hl 1 rfl) ?_
  obtain ⟨q3, hq3, h⟩ := s_bind h
  refine u_calliS (r := q3) (As := [.int l2, .int l0]) (rest := []) (wc := ([] : va_W)) hx hb hml hown hts hK hA hl hS (c_X0_toHost l D cI cB cZ l2 l0 _ _ hq3) (va_cwS 2 hts gX0_pairsThatRest_X0_toHost rfl rfl rfl (by decide +kernel) ⟨Nat.le_of_ble_eq_true rfl, Nat.le_of_ble_eq_true rfl⟩) [] rfl rfl rfl rfl (Nat.le_of_ble_eq_true rfl) dX0_pairsThatRest_32 (fun H locs hS => ?_)
  refine lv_iload_n hx hb dX0_pairsThatRest_35 rfl (lv_at hl 3 rfl) ?_
  refine lv_iconst (v := (2 : Int32)) hx hb dX0_pairsThatRest_36 (by decide) ?_
  refine lv_ixor hx hb dX0_pairsThatRest_37 ?_
  refine lv_iload_n hx hb dX0_pairsThatRest_38 rfl (lv_at hl 1 rfl) ?_
  obtain ⟨q4, hq4, h⟩ := s_bind h
  refine u_calliS (r := q4) (As := [.int (l2 ^^^ (2 : Int32)), .int l0]) (rest := [.int q3]) (wc := ([] : va_W)) hx hb hml hown hts hK hA hl hS (c_X0_toHost l D cI cB cZ (l2 ^^^ (2 : Int32)) l0 _ _ hq4) (va_cwS 2 hts gX0_pairsThatRest_X0_toHost rfl rfl rfl (by decide +kernel) ⟨Nat.le_of_ble_eq_true rfl, Nat.le_of_ble_eq_true rfl⟩) [] rfl rfl rfl rfl (Nat.le_of_ble_eq_true rfl) dX0_pairsThatRest_39 (fun H locs hS => ?_)
  refine lv_icmp_lt (tgt := 49) hx hb dX0_pairsThatRest_42 (by decide) (fun c5 => ?_) (fun c5 => ?_)
  · replace h := s_yes c5 h
    refine lv_iconst (v := (0 : Int32)) hx hb dX0_pairsThatRest_49 (by decide) ?_
    exact w_X0_pairsThatRest_b50 C0 hend k_b4 hk_b4 l0 l1 l2 t0 (0 : Int32) _ _ _ h hS (lv_sub hl [1, 2, 3, 0] rfl)
  replace h := s_no c5 h
  refine lv_iconst (v := (1 : Int32)) hx hb dX0_pairsThatRest_45 (by decide) ?_
  refine lv_goto (tgt := 50) hx hb dX0_pairsThatRest_46 (by decide) ?_
  exact w_X0_pairsThatRest_b50 C0 hend k_b4 hk_b4 l0 l1 l2 t0 (1 : Int32) _ _ _ h hS (lv_sub hl [1, 2, 3, 0] rfl)
def f_X0_pairsThatRest_b4   : Nat → Int32 → Int32 → Int32 → Option (Int32)
  | 0, _, _, _ => none
  | fu + 1, l0, l1, l2 => (if (4 : Int32) ≤ l2 then some (l1) else ((f_X0_toGuest l2 l0).bind fun q7 => ((f_X0_toGuest (l2 ^^^ (1 : Int32)) l0).bind fun q8 => (if q7 < q8 then f_X0_pairsThatRest_b29 (f_X0_pairsThatRest_b4  fu)  l0 l1 l2 (0 : Int32) else f_X0_pairsThatRest_b29 (f_X0_pairsThatRest_b4  fu)  l0 l1 l2 (1 : Int32)))))
set_option maxHeartbeats 4000000 in
set_option maxRecDepth 100000 in
theorem w_X0_pairsThatRest_b4 {p : Program} {l : Launch} {e : Env} {s : State} {m : MethodId} {args : Array Value} {below : List Frame} {meth : Method} {c : Code} {A : Nat → Prop} {Q : State → Prop} {D : va_G} {cI cB cZ : ClassId} (C0 : Cx p s m args c cX0_pairsThatRest 5 RX0 wsX0_pairsThatRest D (s_tys cI cB cZ) A) {rv : Int32} (hend : ∀ (pc : Nat) (H : Heap) (locs : List Loc) (ls : Array Slot), decode cX0_pairsThatRest pc = .ok (.ireturn, 1) → sS D vwCl A s.heap ([] : va_W) H locs → W p l e rm_X0_pairsThatRest s m args below meth c H locs 0 0 Q (F0 m pc ls [.int rv])) : ∀ (fu : Nat)  (l0 : Int32) (l1 : Int32) (l2 : Int32) (H : Heap) (locs : List Loc) (ls : Array Slot), f_X0_pairsThatRest_b4  fu l0 l1 l2 = some rv → sS D vwCl A s.heap ([] : va_W) H locs → lv_has ls 5 [(0, .int l0), (1, .int l1), (2, .int l2)] → W p l e rm_X0_pairsThatRest s m args below meth c H locs 0 0 Q (F0 m 4 ls []) := by
  obtain ⟨hx, hb, hml, hown, hts, hK, hA⟩ := id C0
  intro fu
  induction fu with
  | zero => intro l0 l1 l2 H locs ls h; cases h
  | succ fu ih =>
    intro l0 l1 l2 H locs ls h hS hl
    rw [f_X0_pairsThatRest_b4] at h
    refine lv_iload_n hx hb dX0_pairsThatRest_4 rfl (lv_at hl 2 rfl) ?_
    refine lv_iconst (v := (4 : Int32)) hx hb dX0_pairsThatRest_5 (by decide) ?_
    refine lv_icmp_ge (tgt := 73) hx hb dX0_pairsThatRest_6 (by decide) (fun c6 => ?_) (fun c6 => ?_)
    · replace h := s_yes c6 h
      refine lv_iload_n hx hb dX0_pairsThatRest_73 rfl (lv_at hl 1 rfl) ?_
      obtain rfl := Option.some.inj h
      exact hend _ _ _ _ dX0_pairsThatRest_74 hS
    replace h := s_no c6 h
    refine lv_iload_n hx hb dX0_pairsThatRest_9 rfl (lv_at hl 2 rfl) ?_
    refine lv_iload_n hx hb dX0_pairsThatRest_10 rfl (lv_at hl 0 rfl) ?_
    obtain ⟨q7, hq7, h⟩ := s_bind h
    refine u_calliS (r := q7) (As := [.int l2, .int l0]) (rest := []) (wc := ([] : va_W)) hx hb hml hown hts hK hA hl hS (c_X0_toGuest l D cI cB cZ l2 l0 _ _ hq7) (va_cwS 2 hts gX0_pairsThatRest_X0_toGuest rfl rfl rfl (by decide +kernel) ⟨Nat.le_of_ble_eq_true rfl, Nat.le_of_ble_eq_true rfl⟩) [] rfl rfl rfl rfl (Nat.le_of_ble_eq_true rfl) dX0_pairsThatRest_11 (fun H locs hS => ?_)
    refine lv_iload_n hx hb dX0_pairsThatRest_14 rfl (lv_at hl 2 rfl) ?_
    refine lv_iconst (v := (1 : Int32)) hx hb dX0_pairsThatRest_15 (by decide) ?_
    refine lv_ixor hx hb dX0_pairsThatRest_16 ?_
    refine lv_iload_n hx hb dX0_pairsThatRest_17 rfl (lv_at hl 0 rfl) ?_
    obtain ⟨q8, hq8, h⟩ := s_bind h
    refine u_calliS (r := q8) (As := [.int (l2 ^^^ (1 : Int32)), .int l0]) (rest := [.int q7]) (wc := ([] : va_W)) hx hb hml hown hts hK hA hl hS (c_X0_toGuest l D cI cB cZ (l2 ^^^ (1 : Int32)) l0 _ _ hq8) (va_cwS 2 hts gX0_pairsThatRest_X0_toGuest rfl rfl rfl (by decide +kernel) ⟨Nat.le_of_ble_eq_true rfl, Nat.le_of_ble_eq_true rfl⟩) [] rfl rfl rfl rfl (Nat.le_of_ble_eq_true rfl) dX0_pairsThatRest_18 (fun H locs hS => ?_)
    refine lv_icmp_lt (tgt := 28) hx hb dX0_pairsThatRest_21 (by decide) (fun c9 => ?_) (fun c9 => ?_)
    · replace h := s_yes c9 h
      refine lv_iconst (v := (0 : Int32)) hx hb dX0_pairsThatRest_28 (by decide) ?_
      exact w_X0_pairsThatRest_b29 C0 hend (f_X0_pairsThatRest_b4  fu) ih l0 l1 l2 (0 : Int32) _ _ _ h hS (lv_sub hl [0, 1, 2] rfl)
    replace h := s_no c9 h
    refine lv_iconst (v := (1 : Int32)) hx hb dX0_pairsThatRest_24 (by decide) ?_
    refine lv_goto (tgt := 29) hx hb dX0_pairsThatRest_25 (by decide) ?_
    exact w_X0_pairsThatRest_b29 C0 hend (f_X0_pairsThatRest_b4  fu) ih l0 l1 l2 (1 : Int32) _ _ _ h hS (lv_sub hl [0, 1, 2] rfl)
def f_X0_pairsThatRest    (p1 : Int32) : Option (Int32) := f_X0_pairsThatRest_b4   s_fuel p1 (0 : Int32) (0 : Int32)
set_option maxHeartbeats 4000000 in
set_option maxRecDepth 100000 in
theorem c_X0_pairsThatRest (l : Launch) (D : va_G) (cI cB cZ : ClassId) (p1 : Int32) (rv : Int32) (sz : Nat) (hf : f_X0_pairsThatRest p1 = some rv) : Met l yX0_pairsThatRest wsX0_pairsThatRest rm_X0_pairsThatRest (sPc D vwCl (s_tys cI cB cZ) [.int p1] ([] : va_W) sz) (sQi D vwCl ([] : va_W) ([] : va_W) sz rv) 0 0 (va_A ([] : va_W) sz) := by
  refine s_enter_n (cc := cX0_pairsThatRest) (nL := 5) (r := rv) (by decide) rfl (Nat.le_of_ble_eq_true rfl) ?_
  intro p e s m args below meth c A Q C0 hend ls hl hS
  have h := hf
  clear hf
  replace hl : lv_has ls 5 [(0, .int p1)] := hl
  unfold f_X0_pairsThatRest at h
  obtain ⟨hx, hb, hml, hown, hts, hK, hA⟩ := id C0
  refine lv_iconst (v := (0 : Int32)) hx hb dX0_pairsThatRest_0 (by decide) ?_
  refine lv_istore_n (lv' := [(1, .int (0 : Int32)), (0, .int p1)]) hx hb dX0_pairsThatRest_1 rfl hl (by decide) rfl (fun ls hl => ?_)
  refine lv_iconst (v := (0 : Int32)) hx hb dX0_pairsThatRest_2 (by decide) ?_
  refine lv_istore_n (lv' := [(2, .int (0 : Int32)), (1, .int (0 : Int32)), (0, .int p1)]) hx hb dX0_pairsThatRest_3 rfl hl (by decide) rfl (fun ls hl => ?_)
  exact w_X0_pairsThatRest_b4 C0 hend  s_fuel p1 (0 : Int32) (0 : Int32) _ _ _ h hS (lv_sub hl [2, 1, 0] rfl)

-- InnTurned$House.setWet(II)V
def wd_X1_setWet (cI cB cZ : ClassId) (a_this : Nat) (a_wets : Nat) (a_guests : Nat) (a_sights : Nat) (a_remarks : Nat) (a_marks : Nat) (a_past : Nat)  (wets : (Nat → Int32)) (host : Int32) (rooms : Int32) (night : Int32) (wheels : Int32) (turned : Int32) : va_W := [(a_this, .inr (0, [.ref a_wets, .ref a_guests, .ref a_sights, .ref a_remarks, .ref a_marks, .ref a_past, .int host, .int rooms, .int night, .int wheels, .int turned])), (a_wets, .inl (cI, 6, .inl wets))]
abbrev rm_X1_setWet : Room := { frames := 0, cells := 0, slots := 0, locals := 0 }
set_option maxRecDepth 20000 in
theorem inX1_X1_setWet : ∀ w ∈ u_ws RX1 TX1 11, w ∈ wsX1_setWet := by decide +kernel
def f_X1_setWet   (wets : (Nat → Int32)) (p1 : Int32) (p2 : Int32) : Option ((Nat → Int32)) := (if p1 < 0 then some (wets) else (if (6 : Int32) ≤ p1 then some (wets) else (if ¬ (p1 < 0 ∨ 6 ≤ (Int32.toNatClampNeg p1)) then some ((upd wets (Int32.toNatClampNeg p1) p2)) else none)))
set_option maxHeartbeats 4000000 in
set_option maxRecDepth 100000 in
theorem c_X1_setWet (l : Launch) (D : va_G) (cI cB cZ : ClassId) (a_this : Nat) (a_wets : Nat) (a_guests : Nat) (a_sights : Nat) (a_remarks : Nat) (a_marks : Nat) (a_past : Nat) (wets : (Nat → Int32)) (host : Int32) (rooms : Int32) (night : Int32) (wheels : Int32) (turned : Int32) (p1 : Int32) (p2 : Int32) (rv : (Nat → Int32)) (sz : Nat) (hf : f_X1_setWet wets p1 p2 = some rv) : Met l yX1_setWet wsX1_setWet rm_X1_setWet (sPc D vwCl (s_tys cI cB cZ) [.ref a_this, .int p1, .int p2] (wd_X1_setWet cI cB cZ a_this a_wets a_guests a_sights a_remarks a_marks a_past wets host rooms night wheels turned) sz) (sQv D vwCl (wd_X1_setWet cI cB cZ a_this a_wets a_guests a_sights a_remarks a_marks a_past wets host rooms night wheels turned) (wd_X1_setWet cI cB cZ a_this a_wets a_guests a_sights a_remarks a_marks a_past rv host rooms night wheels turned) sz) 0 0 (va_A (wd_X1_setWet cI cB cZ a_this a_wets a_guests a_sights a_remarks a_marks a_past wets host rooms night wheels turned) sz) := by
  refine s_enter_v (cc := cX1_setWet) (nL := 3) (by decide) rfl (Nat.le_of_ble_eq_true rfl) ?_
  intro p e s m args below meth c A Q C0 hend ls hl hS
  have h := hf
  clear hf
  replace hl : lv_has ls 3 [(0, .ref a_this), (1, .int p1), (2, .int p2)] := hl
  unfold f_X1_setWet at h
  obtain ⟨hx, hb, hml, hown, hts, hK, hA⟩ := id C0
  have inX1 : ∀ w ∈ u_ws RX1 TX1 11, w ∈ wsX1_setWet := inX1_X1_setWet
  refine lv_iload_n hx hb dX1_setWet_0 rfl (lv_at hl 1 rfl) ?_
  refine lv_if_lt (tgt := 20) hx hb dX1_setWet_1 (by decide) (fun c1 => ?_) (fun c1 => ?_)
  · replace h := s_yes c1 h
    obtain rfl := Option.some.inj h
    exact hend _ _ _ _ dX1_setWet_20 hS
  replace h := s_no c1 h
  refine lv_iload_n hx hb dX1_setWet_4 rfl (lv_at hl 1 rfl) ?_
  refine lv_aload_n hx hb dX1_setWet_5 rfl (lv_at hl 0 rfl) ?_
  refine s_get (C := RX1) (T := TX1) (N := 11) hx hb hts inX1 hown hK hS 0 rfl rfl 0 (by decide) (hts (.fieldLink RX1 11 "InnTurned$House" "wets" "[I") (List.mem_of_getElem? (i := 1) rfl)) rfl rfl dX1_setWet_6 ?_
  refine s_alen (v := (6 : Int32)) hx hb hK hS 1 0 rfl rfl rfl dX1_setWet_9 ?_
  refine lv_icmp_ge (tgt := 20) hx hb dX1_setWet_10 (by decide) (fun c2 => ?_) (fun c2 => ?_)
  · replace h := s_yes c2 h
    obtain rfl := Option.some.inj h
    exact hend _ _ _ _ dX1_setWet_20 hS
  replace h := s_no c2 h
  refine lv_aload_n hx hb dX1_setWet_13 rfl (lv_at hl 0 rfl) ?_
  refine s_get (C := RX1) (T := TX1) (N := 11) hx hb hts inX1 hown hK hS 0 rfl rfl 0 (by decide) (hts (.fieldLink RX1 11 "InnTurned$House" "wets" "[I") (List.mem_of_getElem? (i := 1) rfl)) rfl rfl dX1_setWet_14 ?_
  refine lv_iload_n hx hb dX1_setWet_17 rfl (lv_at hl 1 rfl) ?_
  refine lv_iload_n hx hb dX1_setWet_18 rfl (lv_at hl 2 rfl) ?_
  obtain ⟨g3, h⟩ := s_guard h
  refine s_iast (ws' := (wd_X1_setWet cI cB cZ a_this a_wets a_guests a_sights a_remarks a_marks a_past (upd wets (Int32.toNatClampNeg p1) p2) host rooms night wheels turned)) hx hb hK hS 1 rfl rfl g3 rfl dX1_setWet_19 (fun H locs hS => ?_)
  obtain rfl := Option.some.inj h
  exact hend _ _ _ _ dX1_setWet_20 hS

-- InnTurned$Table.empty()V
def wd_X5_empty (cI cB cZ : ClassId) (a_this : Nat) (a_cells : Nat)  (width : Int32) (most : Int32) (rows : Int32) : va_W := [(a_this, .inr (3, [.int width, .int most, .ref a_cells, .int rows]))]
abbrev rm_X5_empty : Room := { frames := 0, cells := 0, slots := 0, locals := 0 }
set_option maxRecDepth 20000 in
theorem inX5_X5_empty : ∀ w ∈ u_ws RX5 TX5 4, w ∈ wsX5_empty := by decide +kernel
def f_X5_empty   (rows : Int32) : Option (Int32) := some ((0 : Int32))
set_option maxHeartbeats 4000000 in
set_option maxRecDepth 100000 in
theorem c_X5_empty (l : Launch) (D : va_G) (cI cB cZ : ClassId) (a_this : Nat) (a_cells : Nat) (width : Int32) (most : Int32) (rows : Int32) (rv : Int32) (sz : Nat) (hf : f_X5_empty rows = some rv) : Met l yX5_empty wsX5_empty rm_X5_empty (sPc D vwCl (s_tys cI cB cZ) [.ref a_this] (wd_X5_empty cI cB cZ a_this a_cells width most rows) sz) (sQv D vwCl (wd_X5_empty cI cB cZ a_this a_cells width most rows) (wd_X5_empty cI cB cZ a_this a_cells width most rv) sz) 0 0 (va_A (wd_X5_empty cI cB cZ a_this a_cells width most rows) sz) := by
  refine s_enter_v (cc := cX5_empty) (nL := 1) (by decide) rfl (Nat.le_of_ble_eq_true rfl) ?_
  intro p e s m args below meth c A Q C0 hend ls hl hS
  have h := hf
  clear hf
  replace hl : lv_has ls 1 [(0, .ref a_this)] := hl
  unfold f_X5_empty at h
  obtain ⟨hx, hb, hml, hown, hts, hK, hA⟩ := id C0
  have inX5 : ∀ w ∈ u_ws RX5 TX5 4, w ∈ wsX5_empty := inX5_X5_empty
  refine lv_aload_n hx hb dX5_empty_0 rfl (lv_at hl 0 rfl) ?_
  refine lv_iconst (v := (0 : Int32)) hx hb dX5_empty_1 (by decide) ?_
  refine s_put (ws' := (wd_X5_empty cI cB cZ a_this a_cells width most (0 : Int32))) (C := RX5) (T := TX5) (N := 4) hx hb hts inX5 tyX5 tyX5_ok nmX5 hown hK hS 0 rfl rfl 3 (by decide) (hts (.fieldLink RX5 28 "InnTurned$Table" "rows" "I") (List.mem_of_getElem? (i := 1) rfl)) rfl rfl rfl rfl (Nat.le_of_ble_eq_true rfl) rfl dX5_empty_2 (fun H locs hS => ?_)
  obtain rfl := Option.some.inj h
  exact hend _ _ _ _ dX5_empty_5 hS

-- InnTurned$House.begin(II)V
def wd_X1_begin (cI cB cZ : ClassId) (a_this : Nat) (a_wets : Nat) (a_guests : Nat) (a_guests_cells : Nat) (a_sights : Nat) (a_sights_cells : Nat) (a_remarks : Nat) (a_remarks_cells : Nat) (a_marks : Nat) (a_marks_cells : Nat) (a_past : Nat) (a_past_cells : Nat)  (wets : (Nat → Int32)) (guests_rows : Int32) (sights_rows : Int32) (remarks_rows : Int32) (marks_rows : Int32) (past_rows : Int32) (host : Int32) (rooms : Int32) (night : Int32) (wheels : Int32) (turned : Int32) : va_W := [(a_this, .inr (0, [.ref a_wets, .ref a_guests, .ref a_sights, .ref a_remarks, .ref a_marks, .ref a_past, .int host, .int rooms, .int night, .int wheels, .int turned])), (a_wets, .inl (cI, 6, .inl wets)), (a_guests, .inr (3, [.int 4, .int 7, .ref a_guests_cells, .int guests_rows])), (a_sights, .inr (3, [.int 4, .int 5, .ref a_sights_cells, .int sights_rows])), (a_remarks, .inr (3, [.int 5, .int 6, .ref a_remarks_cells, .int remarks_rows])), (a_marks, .inr (3, [.int 3, .int 6, .ref a_marks_cells, .int marks_rows])), (a_past, .inr (3, [.int 24, .int 8, .ref a_past_cells, .int past_rows]))]
abbrev rm_X1_begin : Room := { frames := 1, cells := 0, slots := 0, locals := 22 }
set_option maxRecDepth 20000 in
theorem inX1_X1_begin : ∀ w ∈ u_ws RX1 TX1 11, w ∈ wsX1_begin := by decide +kernel
def f_X1_begin_b27   : Nat → (Nat → Int32) → Int32 → Int32 → Int32 → Int32 → Int32 → Int32 → Int32 → Int32 → Int32 → Int32 → Int32 → Option ((Nat → Int32) × Int32 × Int32 × Int32 × Int32 × Int32 × Int32 × Int32 × Int32 × Int32 × Int32)
  | 0, _, _, _, _, _, _, _, _, _, _, _, _ => none
  | fu + 1, wets, guests_rows, sights_rows, remarks_rows, marks_rows, past_rows, host, rooms, night, wheels, turned, l3 => (if (6 : Int32) ≤ l3 then ((f_X5_empty guests_rows).bind fun q2 => ((f_X5_empty sights_rows).bind fun q3 => ((f_X5_empty remarks_rows).bind fun q4 => ((f_X5_empty marks_rows).bind fun q5 => ((f_X5_empty past_rows).bind fun q6 => some (wets, q2, q3, q4, q5, q6, host, rooms, night, wheels, turned)))))) else ((f_X1_setWet wets l3 (0 : Int32)).bind fun q7 => (f_X1_begin_b27  fu) q7 guests_rows sights_rows remarks_rows marks_rows past_rows host rooms night wheels turned (l3 + (1 : Int32))))
set_option maxHeartbeats 4000000 in
set_option maxRecDepth 100000 in
theorem w_X1_begin_b27 {p : Program} {l : Launch} {e : Env} {s : State} {m : MethodId} {args : Array Value} {below : List Frame} {meth : Method} {c : Code} {A : Nat → Prop} {Q : State → Prop} {D : va_G} {cI cB cZ : ClassId} {a_this a_wets a_guests a_guests_cells a_sights a_sights_cells a_remarks a_remarks_cells a_marks a_marks_cells a_past a_past_cells : Nat} (C0 : Cx p s m args c cX1_begin 4 RX1 wsX1_begin D (s_tys cI cB cZ) A) {rv : (Nat → Int32) × Int32 × Int32 × Int32 × Int32 × Int32 × Int32 × Int32 × Int32 × Int32 × Int32} (hend : ∀ (pc : Nat) (H : Heap) (locs : List Loc) (ls : Array Slot), decode cX1_begin pc = .ok (.return_, 1) → sS D vwCl A s.heap (wd_X1_begin cI cB cZ a_this a_wets a_guests a_guests_cells a_sights a_sights_cells a_remarks a_remarks_cells a_marks a_marks_cells a_past a_past_cells rv.1 rv.2.1 rv.2.2.1 rv.2.2.2.1 rv.2.2.2.2.1 rv.2.2.2.2.2.1 rv.2.2.2.2.2.2.1 rv.2.2.2.2.2.2.2.1 rv.2.2.2.2.2.2.2.2.1 rv.2.2.2.2.2.2.2.2.2.1 rv.2.2.2.2.2.2.2.2.2.2) H locs → W p l e rm_X1_begin s m args below meth c H locs 0 0 Q (F0 m pc ls [])) : ∀ (fu : Nat) (wets : (Nat → Int32)) (guests_rows : Int32) (sights_rows : Int32) (remarks_rows : Int32) (marks_rows : Int32) (past_rows : Int32) (host : Int32) (rooms : Int32) (night : Int32) (wheels : Int32) (turned : Int32) (l3 : Int32) (H : Heap) (locs : List Loc) (ls : Array Slot), f_X1_begin_b27  fu wets guests_rows sights_rows remarks_rows marks_rows past_rows host rooms night wheels turned l3 = some rv → sS D vwCl A s.heap (wd_X1_begin cI cB cZ a_this a_wets a_guests a_guests_cells a_sights a_sights_cells a_remarks a_remarks_cells a_marks a_marks_cells a_past a_past_cells wets guests_rows sights_rows remarks_rows marks_rows past_rows host rooms night wheels turned) H locs → lv_has ls 4 [(0, .ref a_this), (3, .int l3)] → W p l e rm_X1_begin s m args below meth c H locs 0 0 Q (F0 m 27 ls []) := by
  obtain ⟨hx, hb, hml, hown, hts, hK, hA⟩ := id C0
  have inX1 : ∀ w ∈ u_ws RX1 TX1 11, w ∈ wsX1_begin := inX1_X1_begin
  intro fu
  induction fu with
  | zero => intro wets guests_rows sights_rows remarks_rows marks_rows past_rows host rooms night wheels turned l3 H locs ls h; cases h
  | succ fu ih =>
    intro wets guests_rows sights_rows remarks_rows marks_rows past_rows host rooms night wheels turned l3 H locs ls h hS hl
    rw [f_X1_begin_b27] at h
    refine lv_iload_n hx hb dX1_begin_27 rfl (lv_at hl 1 rfl) ?_
    refine lv_bipush (v := (6 : Int32)) hx hb dX1_begin_28 (by decide) ?_
    refine lv_icmp_ge (tgt := 45) hx hb dX1_begin_30 (by decide) (fun c1 => ?_) (fun c1 => ?_)
    · replace h := s_yes c1 h
      refine lv_aload_n hx hb dX1_begin_45 rfl (lv_at hl 0 rfl) ?_
      refine s_get (C := RX1) (T := TX1) (N := 11) hx hb hts inX1 hown hK hS 0 rfl rfl 1 (by decide) (hts (.fieldLink RX1 20 "InnTurned$House" "guests" "LInnTurned$Table;") (List.mem_of_getElem? (i := 6) rfl)) rfl rfl dX1_begin_46 ?_
      obtain ⟨q2, hq2, h⟩ := s_bind h
      refine r_callvV (As := []) (rest := []) (wc := (wd_X5_empty cI cB cZ a_guests a_guests_cells (4 : Int32) (7 : Int32) guests_rows)) (w1 := (wd_X5_empty cI cB cZ a_guests a_guests_cells (4 : Int32) (7 : Int32) q2)) (ws' := (wd_X1_begin cI cB cZ a_this a_wets a_guests a_guests_cells a_sights a_sights_cells a_remarks a_remarks_cells a_marks a_marks_cells a_past a_past_cells wets q2 sights_rows remarks_rows marks_rows past_rows host rooms night wheels turned)) hx hb hml hown hts hK hA hl hS (c_X5_empty l D cI cB cZ a_guests a_guests_cells (4 : Int32) (7 : Int32) guests_rows _ _ hq2) (cwV 0 hts gX1_begin_X5_empty rfl rfl rfl (by decide +kernel) ⟨Nat.le_of_ble_eq_true rfl, Nat.le_of_ble_eq_true rfl⟩) 2 rfl rfl [2] rfl rfl rfl [.inl 0, .inl 1, .inr 0, .inl 3, .inl 4, .inl 5, .inl 6] rfl rfl rfl rfl (Nat.le_of_ble_eq_true rfl) dX1_begin_49 (fun H locs hS => ?_)
      refine lv_aload_n hx hb dX1_begin_52 rfl (lv_at hl 0 rfl) ?_
      refine s_get (C := RX1) (T := TX1) (N := 11) hx hb hts inX1 hown hK hS 0 rfl rfl 2 (by decide) (hts (.fieldLink RX1 24 "InnTurned$House" "sights" "LInnTurned$Table;") (List.mem_of_getElem? (i := 7) rfl)) rfl rfl dX1_begin_53 ?_
      obtain ⟨q3, hq3, h⟩ := s_bind h
      refine r_callvV (As := []) (rest := []) (wc := (wd_X5_empty cI cB cZ a_sights a_sights_cells (4 : Int32) (5 : Int32) sights_rows)) (w1 := (wd_X5_empty cI cB cZ a_sights a_sights_cells (4 : Int32) (5 : Int32) q3)) (ws' := (wd_X1_begin cI cB cZ a_this a_wets a_guests a_guests_cells a_sights a_sights_cells a_remarks a_remarks_cells a_marks a_marks_cells a_past a_past_cells wets q2 q3 remarks_rows marks_rows past_rows host rooms night wheels turned)) hx hb hml hown hts hK hA hl hS (c_X5_empty l D cI cB cZ a_sights a_sights_cells (4 : Int32) (5 : Int32) sights_rows _ _ hq3) (cwV 0 hts gX1_begin_X5_empty rfl rfl rfl (by decide +kernel) ⟨Nat.le_of_ble_eq_true rfl, Nat.le_of_ble_eq_true rfl⟩) 3 rfl rfl [3] rfl rfl rfl [.inl 0, .inl 1, .inl 2, .inr 0, .inl 4, .inl 5, .inl 6] rfl rfl rfl rfl (Nat.le_of_ble_eq_true rfl) dX1_begin_56 (fun H locs hS => ?_)
      refine lv_aload_n hx hb dX1_begin_59 rfl (lv_at hl 0 rfl) ?_
      refine s_get (C := RX1) (T := TX1) (N := 11) hx hb hts inX1 hown hK hS 0 rfl rfl 3 (by decide) (hts (.fieldLink RX1 27 "InnTurned$House" "remarks" "LInnTurned$Table;") (List.mem_of_getElem? (i := 8) rfl)) rfl rfl dX1_begin_60 ?_
      obtain ⟨q4, hq4, h⟩ := s_bind h
      refine r_callvV (As := []) (rest := []) (wc := (wd_X5_empty cI cB cZ a_remarks a_remarks_cells (5 : Int32) (6 : Int32) remarks_rows)) (w1 := (wd_X5_empty cI cB cZ a_remarks a_remarks_cells (5 : Int32) (6 : Int32) q4)) (ws' := (wd_X1_begin cI cB cZ a_this a_wets a_guests a_guests_cells a_sights a_sights_cells a_remarks a_remarks_cells a_marks a_marks_cells a_past a_past_cells wets q2 q3 q4 marks_rows past_rows host rooms night wheels turned)) hx hb hml hown hts hK hA hl hS (c_X5_empty l D cI cB cZ a_remarks a_remarks_cells (5 : Int32) (6 : Int32) remarks_rows _ _ hq4) (cwV 0 hts gX1_begin_X5_empty rfl rfl rfl (by decide +kernel) ⟨Nat.le_of_ble_eq_true rfl, Nat.le_of_ble_eq_true rfl⟩) 4 rfl rfl [4] rfl rfl rfl [.inl 0, .inl 1, .inl 2, .inl 3, .inr 0, .inl 5, .inl 6] rfl rfl rfl rfl (Nat.le_of_ble_eq_true rfl) dX1_begin_63 (fun H locs hS => ?_)
      refine lv_aload_n hx hb dX1_begin_66 rfl (lv_at hl 0 rfl) ?_
      refine s_get (C := RX1) (T := TX1) (N := 11) hx hb hts inX1 hown hK hS 0 rfl rfl 4 (by decide) (hts (.fieldLink RX1 30 "InnTurned$House" "marks" "LInnTurned$Table;") (List.mem_of_getElem? (i := 9) rfl)) rfl rfl dX1_begin_67 ?_
      obtain ⟨q5, hq5, h⟩ := s_bind h
      refine r_callvV (As := []) (rest := []) (wc := (wd_X5_empty cI cB cZ a_marks a_marks_cells (3 : Int32) (6 : Int32) marks_rows)) (w1 := (wd_X5_empty cI cB cZ a_marks a_marks_cells (3 : Int32) (6 : Int32) q5)) (ws' := (wd_X1_begin cI cB cZ a_this a_wets a_guests a_guests_cells a_sights a_sights_cells a_remarks a_remarks_cells a_marks a_marks_cells a_past a_past_cells wets q2 q3 q4 q5 past_rows host rooms night wheels turned)) hx hb hml hown hts hK hA hl hS (c_X5_empty l D cI cB cZ a_marks a_marks_cells (3 : Int32) (6 : Int32) marks_rows _ _ hq5) (cwV 0 hts gX1_begin_X5_empty rfl rfl rfl (by decide +kernel) ⟨Nat.le_of_ble_eq_true rfl, Nat.le_of_ble_eq_true rfl⟩) 5 rfl rfl [5] rfl rfl rfl [.inl 0, .inl 1, .inl 2, .inl 3, .inl 4, .inr 0, .inl 6] rfl rfl rfl rfl (Nat.le_of_ble_eq_true rfl) dX1_begin_70 (fun H locs hS => ?_)
      refine lv_aload_n hx hb dX1_begin_73 rfl (lv_at hl 0 rfl) ?_
      refine s_get (C := RX1) (T := TX1) (N := 11) hx hb hts inX1 hown hK hS 0 rfl rfl 5 (by decide) (hts (.fieldLink RX1 33 "InnTurned$House" "past" "LInnTurned$Table;") (List.mem_of_getElem? (i := 10) rfl)) rfl rfl dX1_begin_74 ?_
      obtain ⟨q6, hq6, h⟩ := s_bind h
      refine r_callvV (As := []) (rest := []) (wc := (wd_X5_empty cI cB cZ a_past a_past_cells (24 : Int32) (8 : Int32) past_rows)) (w1 := (wd_X5_empty cI cB cZ a_past a_past_cells (24 : Int32) (8 : Int32) q6)) (ws' := (wd_X1_begin cI cB cZ a_this a_wets a_guests a_guests_cells a_sights a_sights_cells a_remarks a_remarks_cells a_marks a_marks_cells a_past a_past_cells wets q2 q3 q4 q5 q6 host rooms night wheels turned)) hx hb hml hown hts hK hA hl hS (c_X5_empty l D cI cB cZ a_past a_past_cells (24 : Int32) (8 : Int32) past_rows _ _ hq6) (cwV 0 hts gX1_begin_X5_empty rfl rfl rfl (by decide +kernel) ⟨Nat.le_of_ble_eq_true rfl, Nat.le_of_ble_eq_true rfl⟩) 6 rfl rfl [6] rfl rfl rfl [.inl 0, .inl 1, .inl 2, .inl 3, .inl 4, .inl 5, .inr 0] rfl rfl rfl rfl (Nat.le_of_ble_eq_true rfl) dX1_begin_77 (fun H locs hS => ?_)
      obtain rfl := Option.some.inj h
      exact hend _ _ _ _ dX1_begin_80 hS
    replace h := s_no c1 h
    refine lv_aload_n hx hb dX1_begin_33 rfl (lv_at hl 0 rfl) ?_
    refine lv_iload_n hx hb dX1_begin_34 rfl (lv_at hl 1 rfl) ?_
    refine lv_iconst (v := (0 : Int32)) hx hb dX1_begin_35 (by decide) ?_
    obtain ⟨q7, hq7, h⟩ := s_bind h
    refine r_callvV (As := [.int l3, .int (0 : Int32)]) (rest := []) (wc := (wd_X1_setWet cI cB cZ a_this a_wets a_guests a_sights a_remarks a_marks a_past wets host rooms night wheels turned)) (w1 := (wd_X1_setWet cI cB cZ a_this a_wets a_guests a_sights a_remarks a_marks a_past q7 host rooms night wheels turned)) (ws' := (wd_X1_begin cI cB cZ a_this a_wets a_guests a_guests_cells a_sights a_sights_cells a_remarks a_remarks_cells a_marks a_marks_cells a_past a_past_cells q7 guests_rows sights_rows remarks_rows marks_rows past_rows host rooms night wheels turned)) hx hb hml hown hts hK hA hl hS (c_X1_setWet l D cI cB cZ a_this a_wets a_guests a_sights a_remarks a_marks a_past wets host rooms night wheels turned l3 (0 : Int32) _ _ hq7) (cwV 2 hts gX1_begin_X1_setWet rfl rfl rfl (by decide +kernel) ⟨Nat.le_of_ble_eq_true rfl, Nat.le_of_ble_eq_true rfl⟩) 0 rfl rfl [0, 1] rfl rfl rfl [.inr 0, .inr 1, .inl 2, .inl 3, .inl 4, .inl 5, .inl 6] rfl rfl rfl rfl (Nat.le_of_ble_eq_true rfl) dX1_begin_36 (fun H locs hS => ?_)
    refine lv_iinc (v := (l3 + (1 : Int32))) (lv' := [(3, .int (l3 + (1 : Int32))), (0, .ref a_this)]) hx hb dX1_begin_39 hl (k := 1) rfl rfl (by decide) rfl (fun ls hl => ?_)
    refine lv_goto (tgt := 27) hx hb dX1_begin_42 (by decide) ?_
    exact ih q7 guests_rows sights_rows remarks_rows marks_rows past_rows host rooms night wheels turned (l3 + (1 : Int32)) _ _ _ h hS (lv_sub hl [1, 0] rfl)
def f_X1_begin   (wets : (Nat → Int32)) (guests_rows : Int32) (sights_rows : Int32) (remarks_rows : Int32) (marks_rows : Int32) (past_rows : Int32) (host : Int32) (rooms : Int32) (night : Int32) (wheels : Int32) (turned : Int32) (p1 : Int32) (p2 : Int32) : Option ((Nat → Int32) × Int32 × Int32 × Int32 × Int32 × Int32 × Int32 × Int32 × Int32 × Int32 × Int32) := f_X1_begin_b27   s_fuel wets guests_rows sights_rows remarks_rows marks_rows past_rows p1 p2 (0 : Int32) (0 : Int32) (0 : Int32) (0 : Int32)
set_option maxHeartbeats 4000000 in
set_option maxRecDepth 100000 in
theorem c_X1_begin (l : Launch) (D : va_G) (cI cB cZ : ClassId) (a_this : Nat) (a_wets : Nat) (a_guests : Nat) (a_guests_cells : Nat) (a_sights : Nat) (a_sights_cells : Nat) (a_remarks : Nat) (a_remarks_cells : Nat) (a_marks : Nat) (a_marks_cells : Nat) (a_past : Nat) (a_past_cells : Nat) (wets : (Nat → Int32)) (guests_rows : Int32) (sights_rows : Int32) (remarks_rows : Int32) (marks_rows : Int32) (past_rows : Int32) (host : Int32) (rooms : Int32) (night : Int32) (wheels : Int32) (turned : Int32) (p1 : Int32) (p2 : Int32) (rv : (Nat → Int32) × Int32 × Int32 × Int32 × Int32 × Int32 × Int32 × Int32 × Int32 × Int32 × Int32) (sz : Nat) (hf : f_X1_begin wets guests_rows sights_rows remarks_rows marks_rows past_rows host rooms night wheels turned p1 p2 = some rv) : Met l yX1_begin wsX1_begin rm_X1_begin (sPc D vwCl (s_tys cI cB cZ) [.ref a_this, .int p1, .int p2] (wd_X1_begin cI cB cZ a_this a_wets a_guests a_guests_cells a_sights a_sights_cells a_remarks a_remarks_cells a_marks a_marks_cells a_past a_past_cells wets guests_rows sights_rows remarks_rows marks_rows past_rows host rooms night wheels turned) sz) (sQv D vwCl (wd_X1_begin cI cB cZ a_this a_wets a_guests a_guests_cells a_sights a_sights_cells a_remarks a_remarks_cells a_marks a_marks_cells a_past a_past_cells wets guests_rows sights_rows remarks_rows marks_rows past_rows host rooms night wheels turned) (wd_X1_begin cI cB cZ a_this a_wets a_guests a_guests_cells a_sights a_sights_cells a_remarks a_remarks_cells a_marks a_marks_cells a_past a_past_cells rv.1 rv.2.1 rv.2.2.1 rv.2.2.2.1 rv.2.2.2.2.1 rv.2.2.2.2.2.1 rv.2.2.2.2.2.2.1 rv.2.2.2.2.2.2.2.1 rv.2.2.2.2.2.2.2.2.1 rv.2.2.2.2.2.2.2.2.2.1 rv.2.2.2.2.2.2.2.2.2.2) sz) 0 0 (va_A (wd_X1_begin cI cB cZ a_this a_wets a_guests a_guests_cells a_sights a_sights_cells a_remarks a_remarks_cells a_marks a_marks_cells a_past a_past_cells wets guests_rows sights_rows remarks_rows marks_rows past_rows host rooms night wheels turned) sz) := by
  refine s_enter_v (cc := cX1_begin) (nL := 4) (by decide) rfl (Nat.le_of_ble_eq_true rfl) ?_
  intro p e s m args below meth c A Q C0 hend ls hl hS
  have h := hf
  clear hf
  replace hl : lv_has ls 4 [(0, .ref a_this), (1, .int p1), (2, .int p2)] := hl
  unfold f_X1_begin at h
  obtain ⟨hx, hb, hml, hown, hts, hK, hA⟩ := id C0
  have inX1 : ∀ w ∈ u_ws RX1 TX1 11, w ∈ wsX1_begin := inX1_X1_begin
  refine lv_aload_n hx hb dX1_begin_0 rfl (lv_at hl 0 rfl) ?_
  refine lv_iload_n hx hb dX1_begin_1 rfl (lv_at hl 1 rfl) ?_
  refine s_put (ws' := (wd_X1_begin cI cB cZ a_this a_wets a_guests a_guests_cells a_sights a_sights_cells a_remarks a_remarks_cells a_marks a_marks_cells a_past a_past_cells wets guests_rows sights_rows remarks_rows marks_rows past_rows p1 rooms night wheels turned)) (C := RX1) (T := TX1) (N := 11) hx hb hts inX1 tyX1 tyX1_ok nmX1 hown hK hS 0 rfl rfl 6 (by decide) (hts (.fieldLink RX1 40 "InnTurned$House" "host" "I") (List.mem_of_getElem? (i := 1) rfl)) rfl rfl rfl rfl (Nat.le_of_ble_eq_true rfl) rfl dX1_begin_2 (fun H locs hS => ?_)
  refine lv_aload_n hx hb dX1_begin_5 rfl (lv_at hl 0 rfl) ?_
  refine lv_iload_n hx hb dX1_begin_6 rfl (lv_at hl 2 rfl) ?_
  refine s_put (ws' := (wd_X1_begin cI cB cZ a_this a_wets a_guests a_guests_cells a_sights a_sights_cells a_remarks a_remarks_cells a_marks a_marks_cells a_past a_past_cells wets guests_rows sights_rows remarks_rows marks_rows past_rows p1 p2 night wheels turned)) (C := RX1) (T := TX1) (N := 11) hx hb hts inX1 tyX1 tyX1_ok nmX1 hown hK hS 0 rfl rfl 7 (by decide) (hts (.fieldLink RX1 36 "InnTurned$House" "rooms" "I") (List.mem_of_getElem? (i := 2) rfl)) rfl rfl rfl rfl (Nat.le_of_ble_eq_true rfl) rfl dX1_begin_7 (fun H locs hS => ?_)
  refine lv_aload_n hx hb dX1_begin_10 rfl (lv_at hl 0 rfl) ?_
  refine lv_iconst (v := (0 : Int32)) hx hb dX1_begin_11 (by decide) ?_
  refine s_put (ws' := (wd_X1_begin cI cB cZ a_this a_wets a_guests a_guests_cells a_sights a_sights_cells a_remarks a_remarks_cells a_marks a_marks_cells a_past a_past_cells wets guests_rows sights_rows remarks_rows marks_rows past_rows p1 p2 (0 : Int32) wheels turned)) (C := RX1) (T := TX1) (N := 11) hx hb hts inX1 tyX1 tyX1_ok nmX1 hown hK hS 0 rfl rfl 8 (by decide) (hts (.fieldLink RX1 43 "InnTurned$House" "night" "I") (List.mem_of_getElem? (i := 3) rfl)) rfl rfl rfl rfl (Nat.le_of_ble_eq_true rfl) rfl dX1_begin_12 (fun H locs hS => ?_)
  refine lv_aload_n hx hb dX1_begin_15 rfl (lv_at hl 0 rfl) ?_
  refine lv_iconst (v := (0 : Int32)) hx hb dX1_begin_16 (by decide) ?_
  refine s_put (ws' := (wd_X1_begin cI cB cZ a_this a_wets a_guests a_guests_cells a_sights a_sights_cells a_remarks a_remarks_cells a_marks a_marks_cells a_past a_past_cells wets guests_rows sights_rows remarks_rows marks_rows past_rows p1 p2 (0 : Int32) (0 : Int32) turned)) (C := RX1) (T := TX1) (N := 11) hx hb hts inX1 tyX1 tyX1_ok nmX1 hown hK hS 0 rfl rfl 9 (by decide) (hts (.fieldLink RX1 46 "InnTurned$House" "wheels" "I") (List.mem_of_getElem? (i := 4) rfl)) rfl rfl rfl rfl (Nat.le_of_ble_eq_true rfl) rfl dX1_begin_17 (fun H locs hS => ?_)
  refine lv_aload_n hx hb dX1_begin_20 rfl (lv_at hl 0 rfl) ?_
  refine lv_iconst (v := (0 : Int32)) hx hb dX1_begin_21 (by decide) ?_
  refine s_put (ws' := (wd_X1_begin cI cB cZ a_this a_wets a_guests a_guests_cells a_sights a_sights_cells a_remarks a_remarks_cells a_marks a_marks_cells a_past a_past_cells wets guests_rows sights_rows remarks_rows marks_rows past_rows p1 p2 (0 : Int32) (0 : Int32) (0 : Int32))) (C := RX1) (T := TX1) (N := 11) hx hb hts inX1 tyX1 tyX1_ok nmX1 hown hK hS 0 rfl rfl 10 (by decide) (hts (.fieldLink RX1 49 "InnTurned$House" "turned" "I") (List.mem_of_getElem? (i := 5) rfl)) rfl rfl rfl rfl (Nat.le_of_ble_eq_true rfl) rfl dX1_begin_22 (fun H locs hS => ?_)
  refine lv_iconst (v := (0 : Int32)) hx hb dX1_begin_25 (by decide) ?_
  refine lv_istore_n (lv' := [(3, .int (0 : Int32)), (0, .ref a_this), (1, .int p1), (2, .int p2)]) hx hb dX1_begin_26 rfl hl (by decide) rfl (fun ls hl => ?_)
  exact w_X1_begin_b27 C0 hend  s_fuel wets guests_rows sights_rows remarks_rows marks_rows past_rows p1 p2 (0 : Int32) (0 : Int32) (0 : Int32) (0 : Int32) _ _ _ h hS (lv_sub hl [1, 0] rfl)

-- InnTurned$House.wetOf(I)I
def wd_X1_wetOf (cI cB cZ : ClassId) (a_this : Nat) (a_wets : Nat) (a_guests : Nat) (a_sights : Nat) (a_remarks : Nat) (a_marks : Nat) (a_past : Nat)  (wets : (Nat → Int32)) (host : Int32) (rooms : Int32) (night : Int32) (wheels : Int32) (turned : Int32) : va_W := [(a_this, .inr (0, [.ref a_wets, .ref a_guests, .ref a_sights, .ref a_remarks, .ref a_marks, .ref a_past, .int host, .int rooms, .int night, .int wheels, .int turned])), (a_wets, .inl (cI, 6, .inl wets))]
abbrev rm_X1_wetOf : Room := { frames := 0, cells := 0, slots := 0, locals := 0 }
set_option maxRecDepth 20000 in
theorem inX1_X1_wetOf : ∀ w ∈ u_ws RX1 TX1 11, w ∈ wsX1_wetOf := by decide +kernel
def f_X1_wetOf  (wets : (Nat → Int32))  (p1 : Int32) : Option (Int32) := (if (p1 - p1 / (6 : Int32) * (6 : Int32)) < 0 then some ((0 : Int32)) else (if (6 : Int32) ≤ (p1 - p1 / (6 : Int32) * (6 : Int32)) then some ((0 : Int32)) else (if ¬ ((p1 - p1 / (6 : Int32) * (6 : Int32)) < 0 ∨ 6 ≤ (Int32.toNatClampNeg (p1 - p1 / (6 : Int32) * (6 : Int32)))) then some ((wets (Int32.toNatClampNeg (p1 - p1 / (6 : Int32) * (6 : Int32))))) else none)))
set_option maxHeartbeats 4000000 in
set_option maxRecDepth 100000 in
theorem c_X1_wetOf (l : Launch) (D : va_G) (cI cB cZ : ClassId) (a_this : Nat) (a_wets : Nat) (a_guests : Nat) (a_sights : Nat) (a_remarks : Nat) (a_marks : Nat) (a_past : Nat) (wets : (Nat → Int32)) (host : Int32) (rooms : Int32) (night : Int32) (wheels : Int32) (turned : Int32) (p1 : Int32) (rv : Int32) (sz : Nat) (hf : f_X1_wetOf wets p1 = some rv) : Met l yX1_wetOf wsX1_wetOf rm_X1_wetOf (sPc D vwCl (s_tys cI cB cZ) [.ref a_this, .int p1] (wd_X1_wetOf cI cB cZ a_this a_wets a_guests a_sights a_remarks a_marks a_past wets host rooms night wheels turned) sz) (sQi D vwCl (wd_X1_wetOf cI cB cZ a_this a_wets a_guests a_sights a_remarks a_marks a_past wets host rooms night wheels turned) (wd_X1_wetOf cI cB cZ a_this a_wets a_guests a_sights a_remarks a_marks a_past wets host rooms night wheels turned) sz rv) 0 0 (va_A (wd_X1_wetOf cI cB cZ a_this a_wets a_guests a_sights a_remarks a_marks a_past wets host rooms night wheels turned) sz) := by
  refine s_enter_n (cc := cX1_wetOf) (nL := 3) (r := rv) (by decide) rfl (Nat.le_of_ble_eq_true rfl) ?_
  intro p e s m args below meth c A Q C0 hend ls hl hS
  have h := hf
  clear hf
  replace hl : lv_has ls 3 [(0, .ref a_this), (1, .int p1)] := hl
  unfold f_X1_wetOf at h
  obtain ⟨hx, hb, hml, hown, hts, hK, hA⟩ := id C0
  have inX1 : ∀ w ∈ u_ws RX1 TX1 11, w ∈ wsX1_wetOf := inX1_X1_wetOf
  refine lv_iload_n hx hb dX1_wetOf_0 rfl (lv_at hl 1 rfl) ?_
  refine lv_bipush (v := (6 : Int32)) hx hb dX1_wetOf_1 (by decide) ?_
  refine lv_irem hx hb dX1_wetOf_3 (by decide) ?_
  refine lv_istore_n (lv' := [(2, .int (p1 - p1 / (6 : Int32) * (6 : Int32))), (0, .ref a_this), (1, .int p1)]) hx hb dX1_wetOf_4 rfl hl (by decide) rfl (fun ls hl => ?_)
  refine lv_iload_n hx hb dX1_wetOf_5 rfl (lv_at hl 0 rfl) ?_
  refine lv_if_lt (tgt := 27) hx hb dX1_wetOf_6 (by decide) (fun c1 => ?_) (fun c1 => ?_)
  · replace h := s_yes c1 h
    refine lv_iconst (v := (0 : Int32)) hx hb dX1_wetOf_27 (by decide) ?_
    obtain rfl := Option.some.inj h
    exact hend _ _ _ _ dX1_wetOf_28 hS
  replace h := s_no c1 h
  refine lv_iload_n hx hb dX1_wetOf_9 rfl (lv_at hl 0 rfl) ?_
  refine lv_aload_n hx hb dX1_wetOf_10 rfl (lv_at hl 1 rfl) ?_
  refine s_get (C := RX1) (T := TX1) (N := 11) hx hb hts inX1 hown hK hS 0 rfl rfl 0 (by decide) (hts (.fieldLink RX1 11 "InnTurned$House" "wets" "[I") (List.mem_of_getElem? (i := 1) rfl)) rfl rfl dX1_wetOf_11 ?_
  refine s_alen (v := (6 : Int32)) hx hb hK hS 1 0 rfl rfl rfl dX1_wetOf_14 ?_
  refine lv_icmp_ge (tgt := 27) hx hb dX1_wetOf_15 (by decide) (fun c2 => ?_) (fun c2 => ?_)
  · replace h := s_yes c2 h
    refine lv_iconst (v := (0 : Int32)) hx hb dX1_wetOf_27 (by decide) ?_
    obtain rfl := Option.some.inj h
    exact hend _ _ _ _ dX1_wetOf_28 hS
  replace h := s_no c2 h
  refine lv_aload_n hx hb dX1_wetOf_18 rfl (lv_at hl 1 rfl) ?_
  refine s_get (C := RX1) (T := TX1) (N := 11) hx hb hts inX1 hown hK hS 0 rfl rfl 0 (by decide) (hts (.fieldLink RX1 11 "InnTurned$House" "wets" "[I") (List.mem_of_getElem? (i := 1) rfl)) rfl rfl dX1_wetOf_19 ?_
  refine lv_iload_n hx hb dX1_wetOf_22 rfl (lv_at hl 0 rfl) ?_
  obtain ⟨g3, h⟩ := s_guard h
  refine s_iald hx hb hK hS 1 rfl rfl g3 dX1_wetOf_23 ?_
  refine lv_goto (tgt := 28) hx hb dX1_wetOf_24 (by decide) ?_
  obtain rfl := Option.some.inj h
  exact hend _ _ _ _ dX1_wetOf_28 hS

-- InnTurned$Table.copy(LInnTurned$Table;)V
def wd_X5_copy (cI cB cZ : ClassId) (a_this : Nat) (a_cells : Nat) (a_p1 : Nat) (a_p1_cells : Nat) (n_cells : Nat) (n_p1_cells : Nat) (width : Int32) (most : Int32) (cells : (Nat → Int32)) (rows : Int32) (p1_width : Int32) (p1_most : Int32) (p1_cells : (Nat → Int32)) (p1_rows : Int32) : va_W := [(a_this, .inr (3, [.int width, .int most, .ref a_cells, .int rows])), (a_cells, .inl (cI, n_cells, .inl cells)), (a_p1, .inr (3, [.int p1_width, .int p1_most, .ref a_p1_cells, .int p1_rows])), (a_p1_cells, .inl (cI, n_p1_cells, .inl p1_cells))]
abbrev rm_X5_copy : Room := { frames := 1, cells := 0, slots := 0, locals := 40 }
set_option maxRecDepth 20000 in
theorem inX5_X5_copy : ∀ w ∈ u_ws RX5 TX5 4, w ∈ wsX5_copy := by decide +kernel
def f_X5_copy (n_cells : Nat) (n_p1_cells : Nat) (p1_cells : (Nat → Int32)) (p1_rows : Int32) (cells : (Nat → Int32)) (rows : Int32) : Option ((Nat → Int32) × Int32) := (if (Int32.ofNat n_p1_cells) = (Int32.ofNat n_cells) then (if (¬ (0 : Int32) < 0) ∧ (¬ (0 : Int32) < 0) ∧ (¬ (Int32.ofNat n_cells) < 0) ∧ (Int32.toNatClampNeg (0 : Int32)) + (Int32.toNatClampNeg (Int32.ofNat n_cells)) ≤ n_p1_cells ∧ (Int32.toNatClampNeg (0 : Int32)) + (Int32.toNatClampNeg (Int32.ofNat n_cells)) ≤ n_cells then some ((va_cpy p1_cells cells (Int32.toNatClampNeg (0 : Int32)) (Int32.toNatClampNeg (0 : Int32)) (Int32.toNatClampNeg (Int32.ofNat n_cells))), p1_rows) else none) else some (cells, rows))
set_option maxHeartbeats 4000000 in
set_option maxRecDepth 100000 in
theorem c_X5_copy (l : Launch) (D : va_G) (cI cB cZ : ClassId) (a_this : Nat) (a_cells : Nat) (a_p1 : Nat) (a_p1_cells : Nat) (n_cells : Nat) (n_p1_cells : Nat) (width : Int32) (most : Int32) (cells : (Nat → Int32)) (rows : Int32) (p1_width : Int32) (p1_most : Int32) (p1_cells : (Nat → Int32)) (p1_rows : Int32) (rv : (Nat → Int32) × Int32) (sz : Nat) (hf : f_X5_copy n_cells n_p1_cells p1_cells p1_rows cells rows = some rv) : Met l yX5_copy wsX5_copy rm_X5_copy (sPc D vwCl (s_tys cI cB cZ) [.ref a_this, .ref a_p1] (wd_X5_copy cI cB cZ a_this a_cells a_p1 a_p1_cells n_cells n_p1_cells width most cells rows p1_width p1_most p1_cells p1_rows) sz) (sQv D vwCl (wd_X5_copy cI cB cZ a_this a_cells a_p1 a_p1_cells n_cells n_p1_cells width most cells rows p1_width p1_most p1_cells p1_rows) (wd_X5_copy cI cB cZ a_this a_cells a_p1 a_p1_cells n_cells n_p1_cells width most rv.1 rv.2 p1_width p1_most p1_cells p1_rows) sz) 0 0 (va_A (wd_X5_copy cI cB cZ a_this a_cells a_p1 a_p1_cells n_cells n_p1_cells width most cells rows p1_width p1_most p1_cells p1_rows) sz) := by
  refine s_enter_v (cc := cX5_copy) (nL := 2) (by decide) rfl (Nat.le_of_ble_eq_true rfl) ?_
  intro p e s m args below meth c A Q C0 hend ls hl hS
  have h := hf
  clear hf
  replace hl : lv_has ls 2 [(0, .ref a_this), (1, .ref a_p1)] := hl
  unfold f_X5_copy at h
  obtain ⟨hx, hb, hml, hown, hts, hK, hA⟩ := id C0
  have inX5 : ∀ w ∈ u_ws RX5 TX5 4, w ∈ wsX5_copy := inX5_X5_copy
  refine lv_aload_n hx hb dX5_copy_0 rfl (lv_at hl 1 rfl) ?_
  refine s_get (C := RX5) (T := TX5) (N := 4) hx hb hts inX5 hown hK hS 2 rfl rfl 2 (by decide) (hts (.fieldLink RX5 24 "InnTurned$Table" "cells" "[I") (List.mem_of_getElem? (i := 1) rfl)) rfl rfl dX5_copy_1 ?_
  refine s_alen (v := (Int32.ofNat n_p1_cells)) hx hb hK hS 3 0 rfl rfl rfl dX5_copy_4 ?_
  refine lv_aload_n hx hb dX5_copy_5 rfl (lv_at hl 0 rfl) ?_
  refine s_get (C := RX5) (T := TX5) (N := 4) hx hb hts inX5 hown hK hS 0 rfl rfl 2 (by decide) (hts (.fieldLink RX5 24 "InnTurned$Table" "cells" "[I") (List.mem_of_getElem? (i := 1) rfl)) rfl rfl dX5_copy_6 ?_
  refine s_alen (v := (Int32.ofNat n_cells)) hx hb hK hS 1 0 rfl rfl rfl dX5_copy_9 ?_
  refine lv_icmp_eq (tgt := 14) hx hb dX5_copy_10 (by decide) (fun c1 => ?_) (fun c1 => ?_)
  · replace h := s_yes c1 h
    refine lv_aload_n hx hb dX5_copy_14 rfl (lv_at hl 1 rfl) ?_
    refine s_get (C := RX5) (T := TX5) (N := 4) hx hb hts inX5 hown hK hS 2 rfl rfl 2 (by decide) (hts (.fieldLink RX5 24 "InnTurned$Table" "cells" "[I") (List.mem_of_getElem? (i := 1) rfl)) rfl rfl dX5_copy_15 ?_
    refine lv_iconst (v := (0 : Int32)) hx hb dX5_copy_18 (by decide) ?_
    refine lv_aload_n hx hb dX5_copy_19 rfl (lv_at hl 0 rfl) ?_
    refine s_get (C := RX5) (T := TX5) (N := 4) hx hb hts inX5 hown hK hS 0 rfl rfl 2 (by decide) (hts (.fieldLink RX5 24 "InnTurned$Table" "cells" "[I") (List.mem_of_getElem? (i := 1) rfl)) rfl rfl dX5_copy_20 ?_
    refine lv_iconst (v := (0 : Int32)) hx hb dX5_copy_23 (by decide) ?_
    refine lv_aload_n hx hb dX5_copy_24 rfl (lv_at hl 0 rfl) ?_
    refine s_get (C := RX5) (T := TX5) (N := 4) hx hb hts inX5 hown hK hS 0 rfl rfl 2 (by decide) (hts (.fieldLink RX5 24 "InnTurned$Table" "cells" "[I") (List.mem_of_getElem? (i := 1) rfl)) rfl rfl dX5_copy_25 ?_
    refine s_alen (v := (Int32.ofNat n_cells)) hx hb hK hS 1 0 rfl rfl rfl dX5_copy_28 ?_
    obtain ⟨g2, h⟩ := s_guard h
    refine s_copyi (ws' := (wd_X5_copy cI cB cZ a_this a_cells a_p1 a_p1_cells n_cells n_p1_cells width most (va_cpy p1_cells cells (Int32.toNatClampNeg (0 : Int32)) (Int32.toNatClampNeg (0 : Int32)) (Int32.toNatClampNeg (Int32.ofNat n_cells))) rows p1_width p1_most p1_cells p1_rows)) hx hb hml hl.1 hown (hts (.methodLink RX5 39 arraycopyName) (List.mem_of_getElem? (i := 2) rfl)) (hts (.native arraycopyName) (List.mem_of_getElem? (i := 3) rfl)) (hts (.static arraycopyName) (List.mem_of_getElem? (i := 4) rfl)) (hts (.initialized "java/lang/System") (List.mem_of_getElem? (i := 5) rfl)) hK hS 3 1 rfl rfl rfl rfl g2 (Nat.le_of_ble_eq_true rfl) (Nat.le_of_ble_eq_true rfl) rfl dX5_copy_29 (fun H locs hS => ?_)
    refine lv_aload_n hx hb dX5_copy_32 rfl (lv_at hl 0 rfl) ?_
    refine lv_aload_n hx hb dX5_copy_33 rfl (lv_at hl 1 rfl) ?_
    refine s_get (C := RX5) (T := TX5) (N := 4) hx hb hts inX5 hown hK hS 2 rfl rfl 3 (by decide) (hts (.fieldLink RX5 28 "InnTurned$Table" "rows" "I") (List.mem_of_getElem? (i := 6) rfl)) rfl rfl dX5_copy_34 ?_
    refine s_put (ws' := (wd_X5_copy cI cB cZ a_this a_cells a_p1 a_p1_cells n_cells n_p1_cells width most (va_cpy p1_cells cells (Int32.toNatClampNeg (0 : Int32)) (Int32.toNatClampNeg (0 : Int32)) (Int32.toNatClampNeg (Int32.ofNat n_cells))) p1_rows p1_width p1_most p1_cells p1_rows)) (C := RX5) (T := TX5) (N := 4) hx hb hts inX5 tyX5 tyX5_ok nmX5 hown hK hS 0 rfl rfl 3 (by decide) (hts (.fieldLink RX5 28 "InnTurned$Table" "rows" "I") (List.mem_of_getElem? (i := 6) rfl)) rfl rfl rfl rfl (Nat.le_of_ble_eq_true rfl) rfl dX5_copy_37 (fun H locs hS => ?_)
    obtain rfl := Option.some.inj h
    exact hend _ _ _ _ dX5_copy_40 hS
  replace h := s_no c1 h
  obtain rfl := Option.some.inj h
  exact hend _ _ _ _ dX5_copy_13 hS

-- InnTurned$House.copy(LInnTurned$House;)V
def wd_X1_copy (cI cB cZ : ClassId) (a_this : Nat) (a_wets : Nat) (a_guests : Nat) (a_guests_cells : Nat) (a_sights : Nat) (a_sights_cells : Nat) (a_remarks : Nat) (a_remarks_cells : Nat) (a_marks : Nat) (a_marks_cells : Nat) (a_past : Nat) (a_past_cells : Nat) (a_p1 : Nat) (a_p1_wets : Nat) (a_p1_guests : Nat) (a_p1_guests_cells : Nat) (a_p1_sights : Nat) (a_p1_sights_cells : Nat) (a_p1_remarks : Nat) (a_p1_remarks_cells : Nat) (a_p1_marks : Nat) (a_p1_marks_cells : Nat) (a_p1_past : Nat) (a_p1_past_cells : Nat)  (wets : (Nat → Int32)) (guests_cells : (Nat → Int32)) (guests_rows : Int32) (sights_cells : (Nat → Int32)) (sights_rows : Int32) (remarks_cells : (Nat → Int32)) (remarks_rows : Int32) (marks_cells : (Nat → Int32)) (marks_rows : Int32) (past_cells : (Nat → Int32)) (past_rows : Int32) (host : Int32) (rooms : Int32) (night : Int32) (wheels : Int32) (turned : Int32) (p1_wets : (Nat → Int32)) (p1_guests_cells : (Nat → Int32)) (p1_guests_rows : Int32) (p1_sights_cells : (Nat → Int32)) (p1_sights_rows : Int32) (p1_remarks_cells : (Nat → Int32)) (p1_remarks_rows : Int32) (p1_marks_cells : (Nat → Int32)) (p1_marks_rows : Int32) (p1_past_cells : (Nat → Int32)) (p1_past_rows : Int32) (p1_host : Int32) (p1_rooms : Int32) (p1_night : Int32) (p1_wheels : Int32) (p1_turned : Int32) : va_W := [(a_this, .inr (0, [.ref a_wets, .ref a_guests, .ref a_sights, .ref a_remarks, .ref a_marks, .ref a_past, .int host, .int rooms, .int night, .int wheels, .int turned])), (a_wets, .inl (cI, 6, .inl wets)), (a_guests, .inr (3, [.int 4, .int 7, .ref a_guests_cells, .int guests_rows])), (a_guests_cells, .inl (cI, 28, .inl guests_cells)), (a_sights, .inr (3, [.int 4, .int 5, .ref a_sights_cells, .int sights_rows])), (a_sights_cells, .inl (cI, 20, .inl sights_cells)), (a_remarks, .inr (3, [.int 5, .int 6, .ref a_remarks_cells, .int remarks_rows])), (a_remarks_cells, .inl (cI, 30, .inl remarks_cells)), (a_marks, .inr (3, [.int 3, .int 6, .ref a_marks_cells, .int marks_rows])), (a_marks_cells, .inl (cI, 18, .inl marks_cells)), (a_past, .inr (3, [.int 24, .int 8, .ref a_past_cells, .int past_rows])), (a_past_cells, .inl (cI, 192, .inl past_cells)), (a_p1, .inr (0, [.ref a_p1_wets, .ref a_p1_guests, .ref a_p1_sights, .ref a_p1_remarks, .ref a_p1_marks, .ref a_p1_past, .int p1_host, .int p1_rooms, .int p1_night, .int p1_wheels, .int p1_turned])), (a_p1_wets, .inl (cI, 6, .inl p1_wets)), (a_p1_guests, .inr (3, [.int 4, .int 7, .ref a_p1_guests_cells, .int p1_guests_rows])), (a_p1_guests_cells, .inl (cI, 28, .inl p1_guests_cells)), (a_p1_sights, .inr (3, [.int 4, .int 5, .ref a_p1_sights_cells, .int p1_sights_rows])), (a_p1_sights_cells, .inl (cI, 20, .inl p1_sights_cells)), (a_p1_remarks, .inr (3, [.int 5, .int 6, .ref a_p1_remarks_cells, .int p1_remarks_rows])), (a_p1_remarks_cells, .inl (cI, 30, .inl p1_remarks_cells)), (a_p1_marks, .inr (3, [.int 3, .int 6, .ref a_p1_marks_cells, .int p1_marks_rows])), (a_p1_marks_cells, .inl (cI, 18, .inl p1_marks_cells)), (a_p1_past, .inr (3, [.int 24, .int 8, .ref a_p1_past_cells, .int p1_past_rows])), (a_p1_past_cells, .inl (cI, 192, .inl p1_past_cells))]
abbrev rm_X1_copy : Room := { frames := 2, cells := 0, slots := 0, locals := 61 }
set_option maxRecDepth 20000 in
theorem inX1_X1_copy : ∀ w ∈ u_ws RX1 TX1 11, w ∈ wsX1_copy := by decide +kernel
def f_X1_copy_b42  (p1_wets : (Nat → Int32)) (p1_guests_cells : (Nat → Int32)) (p1_guests_rows : Int32) (p1_sights_cells : (Nat → Int32)) (p1_sights_rows : Int32) (p1_remarks_cells : (Nat → Int32)) (p1_remarks_rows : Int32) (p1_marks_cells : (Nat → Int32)) (p1_marks_rows : Int32) (p1_past_cells : (Nat → Int32)) (p1_past_rows : Int32) (p1_host : Int32) (p1_rooms : Int32) (p1_night : Int32) (p1_wheels : Int32) (p1_turned : Int32) : Nat → (Nat → Int32) → (Nat → Int32) → Int32 → (Nat → Int32) → Int32 → (Nat → Int32) → Int32 → (Nat → Int32) → Int32 → (Nat → Int32) → Int32 → Int32 → Int32 → Int32 → Int32 → Int32 → Int32 → Option ((Nat → Int32) × (Nat → Int32) × Int32 × (Nat → Int32) × Int32 × (Nat → Int32) × Int32 × (Nat → Int32) × Int32 × (Nat → Int32) × Int32 × Int32 × Int32 × Int32 × Int32 × Int32)
  | 0, _, _, _, _, _, _, _, _, _, _, _, _, _, _, _, _, _ => none
  | fu + 1, wets, guests_cells, guests_rows, sights_cells, sights_rows, remarks_cells, remarks_rows, marks_cells, marks_rows, past_cells, past_rows, host, rooms, night, wheels, turned, l2 => (if (6 : Int32) ≤ l2 then ((f_X5_copy 28 28 p1_guests_cells p1_guests_rows guests_cells guests_rows).bind fun q2 => ((f_X5_copy 20 20 p1_sights_cells p1_sights_rows sights_cells sights_rows).bind fun q3 => ((f_X5_copy 30 30 p1_remarks_cells p1_remarks_rows remarks_cells remarks_rows).bind fun q4 => ((f_X5_copy 18 18 p1_marks_cells p1_marks_rows marks_cells marks_rows).bind fun q5 => ((f_X5_copy 192 192 p1_past_cells p1_past_rows past_cells past_rows).bind fun q6 => some (wets, q2.1, q2.2, q3.1, q3.2, q4.1, q4.2, q5.1, q5.2, q6.1, q6.2, host, rooms, night, wheels, turned)))))) else ((f_X1_wetOf p1_wets l2).bind fun q7 => ((f_X1_setWet wets l2 q7).bind fun q8 => (f_X1_copy_b42 p1_wets p1_guests_cells p1_guests_rows p1_sights_cells p1_sights_rows p1_remarks_cells p1_remarks_rows p1_marks_cells p1_marks_rows p1_past_cells p1_past_rows p1_host p1_rooms p1_night p1_wheels p1_turned fu) q8 guests_cells guests_rows sights_cells sights_rows remarks_cells remarks_rows marks_cells marks_rows past_cells past_rows host rooms night wheels turned (l2 + (1 : Int32)))))
set_option maxHeartbeats 4000000 in
set_option maxRecDepth 100000 in
theorem w_X1_copy_b42 {p : Program} {l : Launch} {e : Env} {s : State} {m : MethodId} {args : Array Value} {below : List Frame} {meth : Method} {c : Code} {A : Nat → Prop} {Q : State → Prop} {D : va_G} {cI cB cZ : ClassId} {a_this a_wets a_guests a_guests_cells a_sights a_sights_cells a_remarks a_remarks_cells a_marks a_marks_cells a_past a_past_cells a_p1 a_p1_wets a_p1_guests a_p1_guests_cells a_p1_sights a_p1_sights_cells a_p1_remarks a_p1_remarks_cells a_p1_marks a_p1_marks_cells a_p1_past a_p1_past_cells : Nat} {p1_wets : (Nat → Int32)} {p1_guests_cells : (Nat → Int32)} {p1_guests_rows : Int32} {p1_sights_cells : (Nat → Int32)} {p1_sights_rows : Int32} {p1_remarks_cells : (Nat → Int32)} {p1_remarks_rows : Int32} {p1_marks_cells : (Nat → Int32)} {p1_marks_rows : Int32} {p1_past_cells : (Nat → Int32)} {p1_past_rows : Int32} {p1_host : Int32} {p1_rooms : Int32} {p1_night : Int32} {p1_wheels : Int32} {p1_turned : Int32} (C0 : Cx p s m args c cX1_copy 3 RX1 wsX1_copy D (s_tys cI cB cZ) A) {rv : (Nat → Int32) × (Nat → Int32) × Int32 × (Nat → Int32) × Int32 × (Nat → Int32) × Int32 × (Nat → Int32) × Int32 × (Nat → Int32) × Int32 × Int32 × Int32 × Int32 × Int32 × Int32} (hend : ∀ (pc : Nat) (H : Heap) (locs : List Loc) (ls : Array Slot), decode cX1_copy pc = .ok (.return_, 1) → sS D vwCl A s.heap (wd_X1_copy cI cB cZ a_this a_wets a_guests a_guests_cells a_sights a_sights_cells a_remarks a_remarks_cells a_marks a_marks_cells a_past a_past_cells a_p1 a_p1_wets a_p1_guests a_p1_guests_cells a_p1_sights a_p1_sights_cells a_p1_remarks a_p1_remarks_cells a_p1_marks a_p1_marks_cells a_p1_past a_p1_past_cells rv.1 rv.2.1 rv.2.2.1 rv.2.2.2.1 rv.2.2.2.2.1 rv.2.2.2.2.2.1 rv.2.2.2.2.2.2.1 rv.2.2.2.2.2.2.2.1 rv.2.2.2.2.2.2.2.2.1 rv.2.2.2.2.2.2.2.2.2.1 rv.2.2.2.2.2.2.2.2.2.2.1 rv.2.2.2.2.2.2.2.2.2.2.2.1 rv.2.2.2.2.2.2.2.2.2.2.2.2.1 rv.2.2.2.2.2.2.2.2.2.2.2.2.2.1 rv.2.2.2.2.2.2.2.2.2.2.2.2.2.2.1 rv.2.2.2.2.2.2.2.2.2.2.2.2.2.2.2 p1_wets p1_guests_cells p1_guests_rows p1_sights_cells p1_sights_rows p1_remarks_cells p1_remarks_rows p1_marks_cells p1_marks_rows p1_past_cells p1_past_rows p1_host p1_rooms p1_night p1_wheels p1_turned) H locs → W p l e rm_X1_copy s m args below meth c H locs 0 0 Q (F0 m pc ls [])) : ∀ (fu : Nat) (wets : (Nat → Int32)) (guests_cells : (Nat → Int32)) (guests_rows : Int32) (sights_cells : (Nat → Int32)) (sights_rows : Int32) (remarks_cells : (Nat → Int32)) (remarks_rows : Int32) (marks_cells : (Nat → Int32)) (marks_rows : Int32) (past_cells : (Nat → Int32)) (past_rows : Int32) (host : Int32) (rooms : Int32) (night : Int32) (wheels : Int32) (turned : Int32) (l2 : Int32) (H : Heap) (locs : List Loc) (ls : Array Slot), f_X1_copy_b42 p1_wets p1_guests_cells p1_guests_rows p1_sights_cells p1_sights_rows p1_remarks_cells p1_remarks_rows p1_marks_cells p1_marks_rows p1_past_cells p1_past_rows p1_host p1_rooms p1_night p1_wheels p1_turned fu wets guests_cells guests_rows sights_cells sights_rows remarks_cells remarks_rows marks_cells marks_rows past_cells past_rows host rooms night wheels turned l2 = some rv → sS D vwCl A s.heap (wd_X1_copy cI cB cZ a_this a_wets a_guests a_guests_cells a_sights a_sights_cells a_remarks a_remarks_cells a_marks a_marks_cells a_past a_past_cells a_p1 a_p1_wets a_p1_guests a_p1_guests_cells a_p1_sights a_p1_sights_cells a_p1_remarks a_p1_remarks_cells a_p1_marks a_p1_marks_cells a_p1_past a_p1_past_cells wets guests_cells guests_rows sights_cells sights_rows remarks_cells remarks_rows marks_cells marks_rows past_cells past_rows host rooms night wheels turned p1_wets p1_guests_cells p1_guests_rows p1_sights_cells p1_sights_rows p1_remarks_cells p1_remarks_rows p1_marks_cells p1_marks_rows p1_past_cells p1_past_rows p1_host p1_rooms p1_night p1_wheels p1_turned) H locs → lv_has ls 3 [(0, .ref a_this), (1, .ref a_p1), (2, .int l2)] → W p l e rm_X1_copy s m args below meth c H locs 0 0 Q (F0 m 42 ls []) := by
  obtain ⟨hx, hb, hml, hown, hts, hK, hA⟩ := id C0
  have inX1 : ∀ w ∈ u_ws RX1 TX1 11, w ∈ wsX1_copy := inX1_X1_copy
  intro fu
  induction fu with
  | zero => intro wets guests_cells guests_rows sights_cells sights_rows remarks_cells remarks_rows marks_cells marks_rows past_cells past_rows host rooms night wheels turned l2 H locs ls h; cases h
  | succ fu ih =>
    intro wets guests_cells guests_rows sights_cells sights_rows remarks_cells remarks_rows marks_cells marks_rows past_cells past_rows host rooms night wheels turned l2 H locs ls h hS hl
    rw [f_X1_copy_b42] at h
    refine lv_iload_n hx hb dX1_copy_42 rfl (lv_at hl 2 rfl) ?_
    refine lv_bipush (v := (6 : Int32)) hx hb dX1_copy_43 (by decide) ?_
    refine lv_icmp_ge (tgt := 64) hx hb dX1_copy_45 (by decide) (fun c1 => ?_) (fun c1 => ?_)
    · replace h := s_yes c1 h
      refine lv_aload_n hx hb dX1_copy_64 rfl (lv_at hl 0 rfl) ?_
      refine s_get (C := RX1) (T := TX1) (N := 11) hx hb hts inX1 hown hK hS 0 rfl rfl 1 (by decide) (hts (.fieldLink RX1 20 "InnTurned$House" "guests" "LInnTurned$Table;") (List.mem_of_getElem? (i := 6) rfl)) rfl rfl dX1_copy_65 ?_
      refine lv_aload_n hx hb dX1_copy_68 rfl (lv_at hl 1 rfl) ?_
      refine s_get (C := RX1) (T := TX1) (N := 11) hx hb hts inX1 hown hK hS 12 rfl rfl 1 (by decide) (hts (.fieldLink RX1 20 "InnTurned$House" "guests" "LInnTurned$Table;") (List.mem_of_getElem? (i := 6) rfl)) rfl rfl dX1_copy_69 ?_
      obtain ⟨q2, hq2, h⟩ := s_bind h
      refine r_callvV (As := [.ref a_p1_guests]) (rest := []) (wc := (wd_X5_copy cI cB cZ a_guests a_guests_cells a_p1_guests a_p1_guests_cells 28 28 (4 : Int32) (7 : Int32) guests_cells guests_rows (4 : Int32) (7 : Int32) p1_guests_cells p1_guests_rows)) (w1 := (wd_X5_copy cI cB cZ a_guests a_guests_cells a_p1_guests a_p1_guests_cells 28 28 (4 : Int32) (7 : Int32) q2.1 q2.2 (4 : Int32) (7 : Int32) p1_guests_cells p1_guests_rows)) (ws' := (wd_X1_copy cI cB cZ a_this a_wets a_guests a_guests_cells a_sights a_sights_cells a_remarks a_remarks_cells a_marks a_marks_cells a_past a_past_cells a_p1 a_p1_wets a_p1_guests a_p1_guests_cells a_p1_sights a_p1_sights_cells a_p1_remarks a_p1_remarks_cells a_p1_marks a_p1_marks_cells a_p1_past a_p1_past_cells wets q2.1 q2.2 sights_cells sights_rows remarks_cells remarks_rows marks_cells marks_rows past_cells past_rows host rooms night wheels turned p1_wets p1_guests_cells p1_guests_rows p1_sights_cells p1_sights_rows p1_remarks_cells p1_remarks_rows p1_marks_cells p1_marks_rows p1_past_cells p1_past_rows p1_host p1_rooms p1_night p1_wheels p1_turned)) hx hb hml hown hts hK hA hl hS (c_X5_copy l D cI cB cZ a_guests a_guests_cells a_p1_guests a_p1_guests_cells 28 28 (4 : Int32) (7 : Int32) guests_cells guests_rows (4 : Int32) (7 : Int32) p1_guests_cells p1_guests_rows _ _ hq2) (cwV 1 hts gX1_copy_X5_copy rfl rfl rfl (by decide +kernel) ⟨Nat.le_of_ble_eq_true rfl, Nat.le_of_ble_eq_true rfl⟩) 2 rfl rfl [2, 3, 14, 15] rfl rfl rfl [.inl 0, .inl 1, .inr 0, .inr 1, .inl 4, .inl 5, .inl 6, .inl 7, .inl 8, .inl 9, .inl 10, .inl 11, .inl 12, .inl 13, .inr 2, .inr 3, .inl 16, .inl 17, .inl 18, .inl 19, .inl 20, .inl 21, .inl 22, .inl 23] rfl rfl rfl rfl (Nat.le_of_ble_eq_true rfl) dX1_copy_72 (fun H locs hS => ?_)
      refine lv_aload_n hx hb dX1_copy_75 rfl (lv_at hl 0 rfl) ?_
      refine s_get (C := RX1) (T := TX1) (N := 11) hx hb hts inX1 hown hK hS 0 rfl rfl 2 (by decide) (hts (.fieldLink RX1 24 "InnTurned$House" "sights" "LInnTurned$Table;") (List.mem_of_getElem? (i := 7) rfl)) rfl rfl dX1_copy_76 ?_
      refine lv_aload_n hx hb dX1_copy_79 rfl (lv_at hl 1 rfl) ?_
      refine s_get (C := RX1) (T := TX1) (N := 11) hx hb hts inX1 hown hK hS 12 rfl rfl 2 (by decide) (hts (.fieldLink RX1 24 "InnTurned$House" "sights" "LInnTurned$Table;") (List.mem_of_getElem? (i := 7) rfl)) rfl rfl dX1_copy_80 ?_
      obtain ⟨q3, hq3, h⟩ := s_bind h
      refine r_callvV (As := [.ref a_p1_sights]) (rest := []) (wc := (wd_X5_copy cI cB cZ a_sights a_sights_cells a_p1_sights a_p1_sights_cells 20 20 (4 : Int32) (5 : Int32) sights_cells sights_rows (4 : Int32) (5 : Int32) p1_sights_cells p1_sights_rows)) (w1 := (wd_X5_copy cI cB cZ a_sights a_sights_cells a_p1_sights a_p1_sights_cells 20 20 (4 : Int32) (5 : Int32) q3.1 q3.2 (4 : Int32) (5 : Int32) p1_sights_cells p1_sights_rows)) (ws' := (wd_X1_copy cI cB cZ a_this a_wets a_guests a_guests_cells a_sights a_sights_cells a_remarks a_remarks_cells a_marks a_marks_cells a_past a_past_cells a_p1 a_p1_wets a_p1_guests a_p1_guests_cells a_p1_sights a_p1_sights_cells a_p1_remarks a_p1_remarks_cells a_p1_marks a_p1_marks_cells a_p1_past a_p1_past_cells wets q2.1 q2.2 q3.1 q3.2 remarks_cells remarks_rows marks_cells marks_rows past_cells past_rows host rooms night wheels turned p1_wets p1_guests_cells p1_guests_rows p1_sights_cells p1_sights_rows p1_remarks_cells p1_remarks_rows p1_marks_cells p1_marks_rows p1_past_cells p1_past_rows p1_host p1_rooms p1_night p1_wheels p1_turned)) hx hb hml hown hts hK hA hl hS (c_X5_copy l D cI cB cZ a_sights a_sights_cells a_p1_sights a_p1_sights_cells 20 20 (4 : Int32) (5 : Int32) sights_cells sights_rows (4 : Int32) (5 : Int32) p1_sights_cells p1_sights_rows _ _ hq3) (cwV 1 hts gX1_copy_X5_copy rfl rfl rfl (by decide +kernel) ⟨Nat.le_of_ble_eq_true rfl, Nat.le_of_ble_eq_true rfl⟩) 4 rfl rfl [4, 5, 16, 17] rfl rfl rfl [.inl 0, .inl 1, .inl 2, .inl 3, .inr 0, .inr 1, .inl 6, .inl 7, .inl 8, .inl 9, .inl 10, .inl 11, .inl 12, .inl 13, .inl 14, .inl 15, .inr 2, .inr 3, .inl 18, .inl 19, .inl 20, .inl 21, .inl 22, .inl 23] rfl rfl rfl rfl (Nat.le_of_ble_eq_true rfl) dX1_copy_83 (fun H locs hS => ?_)
      refine lv_aload_n hx hb dX1_copy_86 rfl (lv_at hl 0 rfl) ?_
      refine s_get (C := RX1) (T := TX1) (N := 11) hx hb hts inX1 hown hK hS 0 rfl rfl 3 (by decide) (hts (.fieldLink RX1 27 "InnTurned$House" "remarks" "LInnTurned$Table;") (List.mem_of_getElem? (i := 8) rfl)) rfl rfl dX1_copy_87 ?_
      refine lv_aload_n hx hb dX1_copy_90 rfl (lv_at hl 1 rfl) ?_
      refine s_get (C := RX1) (T := TX1) (N := 11) hx hb hts inX1 hown hK hS 12 rfl rfl 3 (by decide) (hts (.fieldLink RX1 27 "InnTurned$House" "remarks" "LInnTurned$Table;") (List.mem_of_getElem? (i := 8) rfl)) rfl rfl dX1_copy_91 ?_
      obtain ⟨q4, hq4, h⟩ := s_bind h
      refine r_callvV (As := [.ref a_p1_remarks]) (rest := []) (wc := (wd_X5_copy cI cB cZ a_remarks a_remarks_cells a_p1_remarks a_p1_remarks_cells 30 30 (5 : Int32) (6 : Int32) remarks_cells remarks_rows (5 : Int32) (6 : Int32) p1_remarks_cells p1_remarks_rows)) (w1 := (wd_X5_copy cI cB cZ a_remarks a_remarks_cells a_p1_remarks a_p1_remarks_cells 30 30 (5 : Int32) (6 : Int32) q4.1 q4.2 (5 : Int32) (6 : Int32) p1_remarks_cells p1_remarks_rows)) (ws' := (wd_X1_copy cI cB cZ a_this a_wets a_guests a_guests_cells a_sights a_sights_cells a_remarks a_remarks_cells a_marks a_marks_cells a_past a_past_cells a_p1 a_p1_wets a_p1_guests a_p1_guests_cells a_p1_sights a_p1_sights_cells a_p1_remarks a_p1_remarks_cells a_p1_marks a_p1_marks_cells a_p1_past a_p1_past_cells wets q2.1 q2.2 q3.1 q3.2 q4.1 q4.2 marks_cells marks_rows past_cells past_rows host rooms night wheels turned p1_wets p1_guests_cells p1_guests_rows p1_sights_cells p1_sights_rows p1_remarks_cells p1_remarks_rows p1_marks_cells p1_marks_rows p1_past_cells p1_past_rows p1_host p1_rooms p1_night p1_wheels p1_turned)) hx hb hml hown hts hK hA hl hS (c_X5_copy l D cI cB cZ a_remarks a_remarks_cells a_p1_remarks a_p1_remarks_cells 30 30 (5 : Int32) (6 : Int32) remarks_cells remarks_rows (5 : Int32) (6 : Int32) p1_remarks_cells p1_remarks_rows _ _ hq4) (cwV 1 hts gX1_copy_X5_copy rfl rfl rfl (by decide +kernel) ⟨Nat.le_of_ble_eq_true rfl, Nat.le_of_ble_eq_true rfl⟩) 6 rfl rfl [6, 7, 18, 19] rfl rfl rfl [.inl 0, .inl 1, .inl 2, .inl 3, .inl 4, .inl 5, .inr 0, .inr 1, .inl 8, .inl 9, .inl 10, .inl 11, .inl 12, .inl 13, .inl 14, .inl 15, .inl 16, .inl 17, .inr 2, .inr 3, .inl 20, .inl 21, .inl 22, .inl 23] rfl rfl rfl rfl (Nat.le_of_ble_eq_true rfl) dX1_copy_94 (fun H locs hS => ?_)
      refine lv_aload_n hx hb dX1_copy_97 rfl (lv_at hl 0 rfl) ?_
      refine s_get (C := RX1) (T := TX1) (N := 11) hx hb hts inX1 hown hK hS 0 rfl rfl 4 (by decide) (hts (.fieldLink RX1 30 "InnTurned$House" "marks" "LInnTurned$Table;") (List.mem_of_getElem? (i := 9) rfl)) rfl rfl dX1_copy_98 ?_
      refine lv_aload_n hx hb dX1_copy_101 rfl (lv_at hl 1 rfl) ?_
      refine s_get (C := RX1) (T := TX1) (N := 11) hx hb hts inX1 hown hK hS 12 rfl rfl 4 (by decide) (hts (.fieldLink RX1 30 "InnTurned$House" "marks" "LInnTurned$Table;") (List.mem_of_getElem? (i := 9) rfl)) rfl rfl dX1_copy_102 ?_
      obtain ⟨q5, hq5, h⟩ := s_bind h
      refine r_callvV (As := [.ref a_p1_marks]) (rest := []) (wc := (wd_X5_copy cI cB cZ a_marks a_marks_cells a_p1_marks a_p1_marks_cells 18 18 (3 : Int32) (6 : Int32) marks_cells marks_rows (3 : Int32) (6 : Int32) p1_marks_cells p1_marks_rows)) (w1 := (wd_X5_copy cI cB cZ a_marks a_marks_cells a_p1_marks a_p1_marks_cells 18 18 (3 : Int32) (6 : Int32) q5.1 q5.2 (3 : Int32) (6 : Int32) p1_marks_cells p1_marks_rows)) (ws' := (wd_X1_copy cI cB cZ a_this a_wets a_guests a_guests_cells a_sights a_sights_cells a_remarks a_remarks_cells a_marks a_marks_cells a_past a_past_cells a_p1 a_p1_wets a_p1_guests a_p1_guests_cells a_p1_sights a_p1_sights_cells a_p1_remarks a_p1_remarks_cells a_p1_marks a_p1_marks_cells a_p1_past a_p1_past_cells wets q2.1 q2.2 q3.1 q3.2 q4.1 q4.2 q5.1 q5.2 past_cells past_rows host rooms night wheels turned p1_wets p1_guests_cells p1_guests_rows p1_sights_cells p1_sights_rows p1_remarks_cells p1_remarks_rows p1_marks_cells p1_marks_rows p1_past_cells p1_past_rows p1_host p1_rooms p1_night p1_wheels p1_turned)) hx hb hml hown hts hK hA hl hS (c_X5_copy l D cI cB cZ a_marks a_marks_cells a_p1_marks a_p1_marks_cells 18 18 (3 : Int32) (6 : Int32) marks_cells marks_rows (3 : Int32) (6 : Int32) p1_marks_cells p1_marks_rows _ _ hq5) (cwV 1 hts gX1_copy_X5_copy rfl rfl rfl (by decide +kernel) ⟨Nat.le_of_ble_eq_true rfl, Nat.le_of_ble_eq_true rfl⟩) 8 rfl rfl [8, 9, 20, 21] rfl rfl rfl [.inl 0, .inl 1, .inl 2, .inl 3, .inl 4, .inl 5, .inl 6, .inl 7, .inr 0, .inr 1, .inl 10, .inl 11, .inl 12, .inl 13, .inl 14, .inl 15, .inl 16, .inl 17, .inl 18, .inl 19, .inr 2, .inr 3, .inl 22, .inl 23] rfl rfl rfl rfl (Nat.le_of_ble_eq_true rfl) dX1_copy_105 (fun H locs hS => ?_)
      refine lv_aload_n hx hb dX1_copy_108 rfl (lv_at hl 0 rfl) ?_
      refine s_get (C := RX1) (T := TX1) (N := 11) hx hb hts inX1 hown hK hS 0 rfl rfl 5 (by decide) (hts (.fieldLink RX1 33 "InnTurned$House" "past" "LInnTurned$Table;") (List.mem_of_getElem? (i := 10) rfl)) rfl rfl dX1_copy_109 ?_
      refine lv_aload_n hx hb dX1_copy_112 rfl (lv_at hl 1 rfl) ?_
      refine s_get (C := RX1) (T := TX1) (N := 11) hx hb hts inX1 hown hK hS 12 rfl rfl 5 (by decide) (hts (.fieldLink RX1 33 "InnTurned$House" "past" "LInnTurned$Table;") (List.mem_of_getElem? (i := 10) rfl)) rfl rfl dX1_copy_113 ?_
      obtain ⟨q6, hq6, h⟩ := s_bind h
      refine r_callvV (As := [.ref a_p1_past]) (rest := []) (wc := (wd_X5_copy cI cB cZ a_past a_past_cells a_p1_past a_p1_past_cells 192 192 (24 : Int32) (8 : Int32) past_cells past_rows (24 : Int32) (8 : Int32) p1_past_cells p1_past_rows)) (w1 := (wd_X5_copy cI cB cZ a_past a_past_cells a_p1_past a_p1_past_cells 192 192 (24 : Int32) (8 : Int32) q6.1 q6.2 (24 : Int32) (8 : Int32) p1_past_cells p1_past_rows)) (ws' := (wd_X1_copy cI cB cZ a_this a_wets a_guests a_guests_cells a_sights a_sights_cells a_remarks a_remarks_cells a_marks a_marks_cells a_past a_past_cells a_p1 a_p1_wets a_p1_guests a_p1_guests_cells a_p1_sights a_p1_sights_cells a_p1_remarks a_p1_remarks_cells a_p1_marks a_p1_marks_cells a_p1_past a_p1_past_cells wets q2.1 q2.2 q3.1 q3.2 q4.1 q4.2 q5.1 q5.2 q6.1 q6.2 host rooms night wheels turned p1_wets p1_guests_cells p1_guests_rows p1_sights_cells p1_sights_rows p1_remarks_cells p1_remarks_rows p1_marks_cells p1_marks_rows p1_past_cells p1_past_rows p1_host p1_rooms p1_night p1_wheels p1_turned)) hx hb hml hown hts hK hA hl hS (c_X5_copy l D cI cB cZ a_past a_past_cells a_p1_past a_p1_past_cells 192 192 (24 : Int32) (8 : Int32) past_cells past_rows (24 : Int32) (8 : Int32) p1_past_cells p1_past_rows _ _ hq6) (cwV 1 hts gX1_copy_X5_copy rfl rfl rfl (by decide +kernel) ⟨Nat.le_of_ble_eq_true rfl, Nat.le_of_ble_eq_true rfl⟩) 10 rfl rfl [10, 11, 22, 23] rfl rfl rfl [.inl 0, .inl 1, .inl 2, .inl 3, .inl 4, .inl 5, .inl 6, .inl 7, .inl 8, .inl 9, .inr 0, .inr 1, .inl 12, .inl 13, .inl 14, .inl 15, .inl 16, .inl 17, .inl 18, .inl 19, .inl 20, .inl 21, .inr 2, .inr 3] rfl rfl rfl rfl (Nat.le_of_ble_eq_true rfl) dX1_copy_116 (fun H locs hS => ?_)
      obtain rfl := Option.some.inj h
      exact hend _ _ _ _ dX1_copy_119 hS
    replace h := s_no c1 h
    refine lv_aload_n hx hb dX1_copy_48 rfl (lv_at hl 0 rfl) ?_
    refine lv_iload_n hx hb dX1_copy_49 rfl (lv_at hl 2 rfl) ?_
    refine lv_aload_n hx hb dX1_copy_50 rfl (lv_at hl 1 rfl) ?_
    refine lv_iload_n hx hb dX1_copy_51 rfl (lv_at hl 2 rfl) ?_
    obtain ⟨q7, hq7, h⟩ := s_bind h
    refine u_calliV (r := q7) (As := [.int l2]) (rest := [.int l2, .ref a_this]) (wc := (wd_X1_wetOf cI cB cZ a_p1 a_p1_wets a_p1_guests a_p1_sights a_p1_remarks a_p1_marks a_p1_past p1_wets p1_host p1_rooms p1_night p1_wheels p1_turned)) hx hb hml hown hts hK hA hl hS (c_X1_wetOf l D cI cB cZ a_p1 a_p1_wets a_p1_guests a_p1_sights a_p1_remarks a_p1_marks a_p1_past p1_wets p1_host p1_rooms p1_night p1_wheels p1_turned l2 _ _ hq7) (cwV 1 hts gX1_copy_X1_wetOf rfl rfl rfl (by decide +kernel) ⟨Nat.le_of_ble_eq_true rfl, Nat.le_of_ble_eq_true rfl⟩) 12 rfl rfl [12, 13] rfl rfl rfl rfl (Nat.le_of_ble_eq_true rfl) dX1_copy_52 (fun H locs hS => ?_)
    obtain ⟨q8, hq8, h⟩ := s_bind h
    refine r_callvV (As := [.int l2, .int q7]) (rest := []) (wc := (wd_X1_setWet cI cB cZ a_this a_wets a_guests a_sights a_remarks a_marks a_past wets host rooms night wheels turned)) (w1 := (wd_X1_setWet cI cB cZ a_this a_wets a_guests a_sights a_remarks a_marks a_past q8 host rooms night wheels turned)) (ws' := (wd_X1_copy cI cB cZ a_this a_wets a_guests a_guests_cells a_sights a_sights_cells a_remarks a_remarks_cells a_marks a_marks_cells a_past a_past_cells a_p1 a_p1_wets a_p1_guests a_p1_guests_cells a_p1_sights a_p1_sights_cells a_p1_remarks a_p1_remarks_cells a_p1_marks a_p1_marks_cells a_p1_past a_p1_past_cells q8 guests_cells guests_rows sights_cells sights_rows remarks_cells remarks_rows marks_cells marks_rows past_cells past_rows host rooms night wheels turned p1_wets p1_guests_cells p1_guests_rows p1_sights_cells p1_sights_rows p1_remarks_cells p1_remarks_rows p1_marks_cells p1_marks_rows p1_past_cells p1_past_rows p1_host p1_rooms p1_night p1_wheels p1_turned)) hx hb hml hown hts hK hA hl hS (c_X1_setWet l D cI cB cZ a_this a_wets a_guests a_sights a_remarks a_marks a_past wets host rooms night wheels turned l2 q7 _ _ hq8) (cwV 2 hts gX1_copy_X1_setWet rfl rfl rfl (by decide +kernel) ⟨Nat.le_of_ble_eq_true rfl, Nat.le_of_ble_eq_true rfl⟩) 0 rfl rfl [0, 1] rfl rfl rfl [.inr 0, .inr 1, .inl 2, .inl 3, .inl 4, .inl 5, .inl 6, .inl 7, .inl 8, .inl 9, .inl 10, .inl 11, .inl 12, .inl 13, .inl 14, .inl 15, .inl 16, .inl 17, .inl 18, .inl 19, .inl 20, .inl 21, .inl 22, .inl 23] rfl rfl rfl rfl (Nat.le_of_ble_eq_true rfl) dX1_copy_55 (fun H locs hS => ?_)
    refine lv_iinc (v := (l2 + (1 : Int32))) (lv' := [(2, .int (l2 + (1 : Int32))), (0, .ref a_this), (1, .ref a_p1)]) hx hb dX1_copy_58 hl (k := 2) rfl rfl (by decide) rfl (fun ls hl => ?_)
    refine lv_goto (tgt := 42) hx hb dX1_copy_61 (by decide) ?_
    exact ih q8 guests_cells guests_rows sights_cells sights_rows remarks_cells remarks_rows marks_cells marks_rows past_cells past_rows host rooms night wheels turned (l2 + (1 : Int32)) _ _ _ h hS (lv_sub hl [1, 2, 0] rfl)
def f_X1_copy  (p1_wets : (Nat → Int32)) (p1_guests_cells : (Nat → Int32)) (p1_guests_rows : Int32) (p1_sights_cells : (Nat → Int32)) (p1_sights_rows : Int32) (p1_remarks_cells : (Nat → Int32)) (p1_remarks_rows : Int32) (p1_marks_cells : (Nat → Int32)) (p1_marks_rows : Int32) (p1_past_cells : (Nat → Int32)) (p1_past_rows : Int32) (p1_host : Int32) (p1_rooms : Int32) (p1_night : Int32) (p1_wheels : Int32) (p1_turned : Int32) (wets : (Nat → Int32)) (guests_cells : (Nat → Int32)) (guests_rows : Int32) (sights_cells : (Nat → Int32)) (sights_rows : Int32) (remarks_cells : (Nat → Int32)) (remarks_rows : Int32) (marks_cells : (Nat → Int32)) (marks_rows : Int32) (past_cells : (Nat → Int32)) (past_rows : Int32) (host : Int32) (rooms : Int32) (night : Int32) (wheels : Int32) (turned : Int32) : Option ((Nat → Int32) × (Nat → Int32) × Int32 × (Nat → Int32) × Int32 × (Nat → Int32) × Int32 × (Nat → Int32) × Int32 × (Nat → Int32) × Int32 × Int32 × Int32 × Int32 × Int32 × Int32) := f_X1_copy_b42  p1_wets p1_guests_cells p1_guests_rows p1_sights_cells p1_sights_rows p1_remarks_cells p1_remarks_rows p1_marks_cells p1_marks_rows p1_past_cells p1_past_rows p1_host p1_rooms p1_night p1_wheels p1_turned s_fuel wets guests_cells guests_rows sights_cells sights_rows remarks_cells remarks_rows marks_cells marks_rows past_cells past_rows p1_host p1_rooms p1_night p1_wheels p1_turned (0 : Int32)
set_option maxHeartbeats 4000000 in
set_option maxRecDepth 100000 in
theorem c_X1_copy (l : Launch) (D : va_G) (cI cB cZ : ClassId) (a_this : Nat) (a_wets : Nat) (a_guests : Nat) (a_guests_cells : Nat) (a_sights : Nat) (a_sights_cells : Nat) (a_remarks : Nat) (a_remarks_cells : Nat) (a_marks : Nat) (a_marks_cells : Nat) (a_past : Nat) (a_past_cells : Nat) (a_p1 : Nat) (a_p1_wets : Nat) (a_p1_guests : Nat) (a_p1_guests_cells : Nat) (a_p1_sights : Nat) (a_p1_sights_cells : Nat) (a_p1_remarks : Nat) (a_p1_remarks_cells : Nat) (a_p1_marks : Nat) (a_p1_marks_cells : Nat) (a_p1_past : Nat) (a_p1_past_cells : Nat) (wets : (Nat → Int32)) (guests_cells : (Nat → Int32)) (guests_rows : Int32) (sights_cells : (Nat → Int32)) (sights_rows : Int32) (remarks_cells : (Nat → Int32)) (remarks_rows : Int32) (marks_cells : (Nat → Int32)) (marks_rows : Int32) (past_cells : (Nat → Int32)) (past_rows : Int32) (host : Int32) (rooms : Int32) (night : Int32) (wheels : Int32) (turned : Int32) (p1_wets : (Nat → Int32)) (p1_guests_cells : (Nat → Int32)) (p1_guests_rows : Int32) (p1_sights_cells : (Nat → Int32)) (p1_sights_rows : Int32) (p1_remarks_cells : (Nat → Int32)) (p1_remarks_rows : Int32) (p1_marks_cells : (Nat → Int32)) (p1_marks_rows : Int32) (p1_past_cells : (Nat → Int32)) (p1_past_rows : Int32) (p1_host : Int32) (p1_rooms : Int32) (p1_night : Int32) (p1_wheels : Int32) (p1_turned : Int32) (rv : (Nat → Int32) × (Nat → Int32) × Int32 × (Nat → Int32) × Int32 × (Nat → Int32) × Int32 × (Nat → Int32) × Int32 × (Nat → Int32) × Int32 × Int32 × Int32 × Int32 × Int32 × Int32) (sz : Nat) (hf : f_X1_copy p1_wets p1_guests_cells p1_guests_rows p1_sights_cells p1_sights_rows p1_remarks_cells p1_remarks_rows p1_marks_cells p1_marks_rows p1_past_cells p1_past_rows p1_host p1_rooms p1_night p1_wheels p1_turned wets guests_cells guests_rows sights_cells sights_rows remarks_cells remarks_rows marks_cells marks_rows past_cells past_rows host rooms night wheels turned = some rv) : Met l yX1_copy wsX1_copy rm_X1_copy (sPc D vwCl (s_tys cI cB cZ) [.ref a_this, .ref a_p1] (wd_X1_copy cI cB cZ a_this a_wets a_guests a_guests_cells a_sights a_sights_cells a_remarks a_remarks_cells a_marks a_marks_cells a_past a_past_cells a_p1 a_p1_wets a_p1_guests a_p1_guests_cells a_p1_sights a_p1_sights_cells a_p1_remarks a_p1_remarks_cells a_p1_marks a_p1_marks_cells a_p1_past a_p1_past_cells wets guests_cells guests_rows sights_cells sights_rows remarks_cells remarks_rows marks_cells marks_rows past_cells past_rows host rooms night wheels turned p1_wets p1_guests_cells p1_guests_rows p1_sights_cells p1_sights_rows p1_remarks_cells p1_remarks_rows p1_marks_cells p1_marks_rows p1_past_cells p1_past_rows p1_host p1_rooms p1_night p1_wheels p1_turned) sz) (sQv D vwCl (wd_X1_copy cI cB cZ a_this a_wets a_guests a_guests_cells a_sights a_sights_cells a_remarks a_remarks_cells a_marks a_marks_cells a_past a_past_cells a_p1 a_p1_wets a_p1_guests a_p1_guests_cells a_p1_sights a_p1_sights_cells a_p1_remarks a_p1_remarks_cells a_p1_marks a_p1_marks_cells a_p1_past a_p1_past_cells wets guests_cells guests_rows sights_cells sights_rows remarks_cells remarks_rows marks_cells marks_rows past_cells past_rows host rooms night wheels turned p1_wets p1_guests_cells p1_guests_rows p1_sights_cells p1_sights_rows p1_remarks_cells p1_remarks_rows p1_marks_cells p1_marks_rows p1_past_cells p1_past_rows p1_host p1_rooms p1_night p1_wheels p1_turned) (wd_X1_copy cI cB cZ a_this a_wets a_guests a_guests_cells a_sights a_sights_cells a_remarks a_remarks_cells a_marks a_marks_cells a_past a_past_cells a_p1 a_p1_wets a_p1_guests a_p1_guests_cells a_p1_sights a_p1_sights_cells a_p1_remarks a_p1_remarks_cells a_p1_marks a_p1_marks_cells a_p1_past a_p1_past_cells rv.1 rv.2.1 rv.2.2.1 rv.2.2.2.1 rv.2.2.2.2.1 rv.2.2.2.2.2.1 rv.2.2.2.2.2.2.1 rv.2.2.2.2.2.2.2.1 rv.2.2.2.2.2.2.2.2.1 rv.2.2.2.2.2.2.2.2.2.1 rv.2.2.2.2.2.2.2.2.2.2.1 rv.2.2.2.2.2.2.2.2.2.2.2.1 rv.2.2.2.2.2.2.2.2.2.2.2.2.1 rv.2.2.2.2.2.2.2.2.2.2.2.2.2.1 rv.2.2.2.2.2.2.2.2.2.2.2.2.2.2.1 rv.2.2.2.2.2.2.2.2.2.2.2.2.2.2.2 p1_wets p1_guests_cells p1_guests_rows p1_sights_cells p1_sights_rows p1_remarks_cells p1_remarks_rows p1_marks_cells p1_marks_rows p1_past_cells p1_past_rows p1_host p1_rooms p1_night p1_wheels p1_turned) sz) 0 0 (va_A (wd_X1_copy cI cB cZ a_this a_wets a_guests a_guests_cells a_sights a_sights_cells a_remarks a_remarks_cells a_marks a_marks_cells a_past a_past_cells a_p1 a_p1_wets a_p1_guests a_p1_guests_cells a_p1_sights a_p1_sights_cells a_p1_remarks a_p1_remarks_cells a_p1_marks a_p1_marks_cells a_p1_past a_p1_past_cells wets guests_cells guests_rows sights_cells sights_rows remarks_cells remarks_rows marks_cells marks_rows past_cells past_rows host rooms night wheels turned p1_wets p1_guests_cells p1_guests_rows p1_sights_cells p1_sights_rows p1_remarks_cells p1_remarks_rows p1_marks_cells p1_marks_rows p1_past_cells p1_past_rows p1_host p1_rooms p1_night p1_wheels p1_turned) sz) := by
  refine s_enter_v (cc := cX1_copy) (nL := 3) (by decide) rfl (Nat.le_of_ble_eq_true rfl) ?_
  intro p e s m args below meth c A Q C0 hend ls hl hS
  have h := hf
  clear hf
  replace hl : lv_has ls 3 [(0, .ref a_this), (1, .ref a_p1)] := hl
  unfold f_X1_copy at h
  obtain ⟨hx, hb, hml, hown, hts, hK, hA⟩ := id C0
  have inX1 : ∀ w ∈ u_ws RX1 TX1 11, w ∈ wsX1_copy := inX1_X1_copy
  refine lv_aload_n hx hb dX1_copy_0 rfl (lv_at hl 0 rfl) ?_
  refine lv_aload_n hx hb dX1_copy_1 rfl (lv_at hl 1 rfl) ?_
  refine s_get (C := RX1) (T := TX1) (N := 11) hx hb hts inX1 hown hK hS 12 rfl rfl 6 (by decide) (hts (.fieldLink RX1 40 "InnTurned$House" "host" "I") (List.mem_of_getElem? (i := 1) rfl)) rfl rfl dX1_copy_2 ?_
  refine s_put (ws' := (wd_X1_copy cI cB cZ a_this a_wets a_guests a_guests_cells a_sights a_sights_cells a_remarks a_remarks_cells a_marks a_marks_cells a_past a_past_cells a_p1 a_p1_wets a_p1_guests a_p1_guests_cells a_p1_sights a_p1_sights_cells a_p1_remarks a_p1_remarks_cells a_p1_marks a_p1_marks_cells a_p1_past a_p1_past_cells wets guests_cells guests_rows sights_cells sights_rows remarks_cells remarks_rows marks_cells marks_rows past_cells past_rows p1_host rooms night wheels turned p1_wets p1_guests_cells p1_guests_rows p1_sights_cells p1_sights_rows p1_remarks_cells p1_remarks_rows p1_marks_cells p1_marks_rows p1_past_cells p1_past_rows p1_host p1_rooms p1_night p1_wheels p1_turned)) (C := RX1) (T := TX1) (N := 11) hx hb hts inX1 tyX1 tyX1_ok nmX1 hown hK hS 0 rfl rfl 6 (by decide) (hts (.fieldLink RX1 40 "InnTurned$House" "host" "I") (List.mem_of_getElem? (i := 1) rfl)) rfl rfl rfl rfl (Nat.le_of_ble_eq_true rfl) rfl dX1_copy_5 (fun H locs hS => ?_)
  refine lv_aload_n hx hb dX1_copy_8 rfl (lv_at hl 0 rfl) ?_
  refine lv_aload_n hx hb dX1_copy_9 rfl (lv_at hl 1 rfl) ?_
  refine s_get (C := RX1) (T := TX1) (N := 11) hx hb hts inX1 hown hK hS 12 rfl rfl 7 (by decide) (hts (.fieldLink RX1 36 "InnTurned$House" "rooms" "I") (List.mem_of_getElem? (i := 2) rfl)) rfl rfl dX1_copy_10 ?_
  refine s_put (ws' := (wd_X1_copy cI cB cZ a_this a_wets a_guests a_guests_cells a_sights a_sights_cells a_remarks a_remarks_cells a_marks a_marks_cells a_past a_past_cells a_p1 a_p1_wets a_p1_guests a_p1_guests_cells a_p1_sights a_p1_sights_cells a_p1_remarks a_p1_remarks_cells a_p1_marks a_p1_marks_cells a_p1_past a_p1_past_cells wets guests_cells guests_rows sights_cells sights_rows remarks_cells remarks_rows marks_cells marks_rows past_cells past_rows p1_host p1_rooms night wheels turned p1_wets p1_guests_cells p1_guests_rows p1_sights_cells p1_sights_rows p1_remarks_cells p1_remarks_rows p1_marks_cells p1_marks_rows p1_past_cells p1_past_rows p1_host p1_rooms p1_night p1_wheels p1_turned)) (C := RX1) (T := TX1) (N := 11) hx hb hts inX1 tyX1 tyX1_ok nmX1 hown hK hS 0 rfl rfl 7 (by decide) (hts (.fieldLink RX1 36 "InnTurned$House" "rooms" "I") (List.mem_of_getElem? (i := 2) rfl)) rfl rfl rfl rfl (Nat.le_of_ble_eq_true rfl) rfl dX1_copy_13 (fun H locs hS => ?_)
  refine lv_aload_n hx hb dX1_copy_16 rfl (lv_at hl 0 rfl) ?_
  refine lv_aload_n hx hb dX1_copy_17 rfl (lv_at hl 1 rfl) ?_
  refine s_get (C := RX1) (T := TX1) (N := 11) hx hb hts inX1 hown hK hS 12 rfl rfl 8 (by decide) (hts (.fieldLink RX1 43 "InnTurned$House" "night" "I") (List.mem_of_getElem? (i := 3) rfl)) rfl rfl dX1_copy_18 ?_
  refine s_put (ws' := (wd_X1_copy cI cB cZ a_this a_wets a_guests a_guests_cells a_sights a_sights_cells a_remarks a_remarks_cells a_marks a_marks_cells a_past a_past_cells a_p1 a_p1_wets a_p1_guests a_p1_guests_cells a_p1_sights a_p1_sights_cells a_p1_remarks a_p1_remarks_cells a_p1_marks a_p1_marks_cells a_p1_past a_p1_past_cells wets guests_cells guests_rows sights_cells sights_rows remarks_cells remarks_rows marks_cells marks_rows past_cells past_rows p1_host p1_rooms p1_night wheels turned p1_wets p1_guests_cells p1_guests_rows p1_sights_cells p1_sights_rows p1_remarks_cells p1_remarks_rows p1_marks_cells p1_marks_rows p1_past_cells p1_past_rows p1_host p1_rooms p1_night p1_wheels p1_turned)) (C := RX1) (T := TX1) (N := 11) hx hb hts inX1 tyX1 tyX1_ok nmX1 hown hK hS 0 rfl rfl 8 (by decide) (hts (.fieldLink RX1 43 "InnTurned$House" "night" "I") (List.mem_of_getElem? (i := 3) rfl)) rfl rfl rfl rfl (Nat.le_of_ble_eq_true rfl) rfl dX1_copy_21 (fun H locs hS => ?_)
  refine lv_aload_n hx hb dX1_copy_24 rfl (lv_at hl 0 rfl) ?_
  refine lv_aload_n hx hb dX1_copy_25 rfl (lv_at hl 1 rfl) ?_
  refine s_get (C := RX1) (T := TX1) (N := 11) hx hb hts inX1 hown hK hS 12 rfl rfl 9 (by decide) (hts (.fieldLink RX1 46 "InnTurned$House" "wheels" "I") (List.mem_of_getElem? (i := 4) rfl)) rfl rfl dX1_copy_26 ?_
  refine s_put (ws' := (wd_X1_copy cI cB cZ a_this a_wets a_guests a_guests_cells a_sights a_sights_cells a_remarks a_remarks_cells a_marks a_marks_cells a_past a_past_cells a_p1 a_p1_wets a_p1_guests a_p1_guests_cells a_p1_sights a_p1_sights_cells a_p1_remarks a_p1_remarks_cells a_p1_marks a_p1_marks_cells a_p1_past a_p1_past_cells wets guests_cells guests_rows sights_cells sights_rows remarks_cells remarks_rows marks_cells marks_rows past_cells past_rows p1_host p1_rooms p1_night p1_wheels turned p1_wets p1_guests_cells p1_guests_rows p1_sights_cells p1_sights_rows p1_remarks_cells p1_remarks_rows p1_marks_cells p1_marks_rows p1_past_cells p1_past_rows p1_host p1_rooms p1_night p1_wheels p1_turned)) (C := RX1) (T := TX1) (N := 11) hx hb hts inX1 tyX1 tyX1_ok nmX1 hown hK hS 0 rfl rfl 9 (by decide) (hts (.fieldLink RX1 46 "InnTurned$House" "wheels" "I") (List.mem_of_getElem? (i := 4) rfl)) rfl rfl rfl rfl (Nat.le_of_ble_eq_true rfl) rfl dX1_copy_29 (fun H locs hS => ?_)
  refine lv_aload_n hx hb dX1_copy_32 rfl (lv_at hl 0 rfl) ?_
  refine lv_aload_n hx hb dX1_copy_33 rfl (lv_at hl 1 rfl) ?_
  refine s_get (C := RX1) (T := TX1) (N := 11) hx hb hts inX1 hown hK hS 12 rfl rfl 10 (by decide) (hts (.fieldLink RX1 49 "InnTurned$House" "turned" "I") (List.mem_of_getElem? (i := 5) rfl)) rfl rfl dX1_copy_34 ?_
  refine s_put (ws' := (wd_X1_copy cI cB cZ a_this a_wets a_guests a_guests_cells a_sights a_sights_cells a_remarks a_remarks_cells a_marks a_marks_cells a_past a_past_cells a_p1 a_p1_wets a_p1_guests a_p1_guests_cells a_p1_sights a_p1_sights_cells a_p1_remarks a_p1_remarks_cells a_p1_marks a_p1_marks_cells a_p1_past a_p1_past_cells wets guests_cells guests_rows sights_cells sights_rows remarks_cells remarks_rows marks_cells marks_rows past_cells past_rows p1_host p1_rooms p1_night p1_wheels p1_turned p1_wets p1_guests_cells p1_guests_rows p1_sights_cells p1_sights_rows p1_remarks_cells p1_remarks_rows p1_marks_cells p1_marks_rows p1_past_cells p1_past_rows p1_host p1_rooms p1_night p1_wheels p1_turned)) (C := RX1) (T := TX1) (N := 11) hx hb hts inX1 tyX1 tyX1_ok nmX1 hown hK hS 0 rfl rfl 10 (by decide) (hts (.fieldLink RX1 49 "InnTurned$House" "turned" "I") (List.mem_of_getElem? (i := 5) rfl)) rfl rfl rfl rfl (Nat.le_of_ble_eq_true rfl) rfl dX1_copy_37 (fun H locs hS => ?_)
  refine lv_iconst (v := (0 : Int32)) hx hb dX1_copy_40 (by decide) ?_
  refine lv_istore_n (lv' := [(2, .int (0 : Int32)), (0, .ref a_this), (1, .ref a_p1)]) hx hb dX1_copy_41 rfl hl (by decide) rfl (fun ls hl => ?_)
  exact w_X1_copy_b42 C0 hend  s_fuel wets guests_cells guests_rows sights_cells sights_rows remarks_cells remarks_rows marks_cells marks_rows past_cells past_rows p1_host p1_rooms p1_night p1_wheels p1_turned (0 : Int32) _ _ _ h hS (lv_sub hl [1, 2, 0] rfl)

-- InnTurned$House.wetNow()I
def wd_X1_wetNow (cI cB cZ : ClassId) (a_this : Nat) (a_wets : Nat) (a_guests : Nat) (a_sights : Nat) (a_remarks : Nat) (a_marks : Nat) (a_past : Nat)  (wets : (Nat → Int32)) (host : Int32) (rooms : Int32) (night : Int32) (wheels : Int32) (turned : Int32) : va_W := [(a_this, .inr (0, [.ref a_wets, .ref a_guests, .ref a_sights, .ref a_remarks, .ref a_marks, .ref a_past, .int host, .int rooms, .int night, .int wheels, .int turned])), (a_wets, .inl (cI, 6, .inl wets))]
abbrev rm_X1_wetNow : Room := { frames := 1, cells := 0, slots := 0, locals := 22 }
set_option maxRecDepth 20000 in
theorem inX1_X1_wetNow : ∀ w ∈ u_ws RX1 TX1 11, w ∈ wsX1_wetNow := by decide +kernel
def f_X1_wetNow  (wets : (Nat → Int32)) (night : Int32)  : Option (Int32) := ((f_X1_wetOf wets night).bind fun q1 => some (q1))
set_option maxHeartbeats 4000000 in
set_option maxRecDepth 100000 in
theorem c_X1_wetNow (l : Launch) (D : va_G) (cI cB cZ : ClassId) (a_this : Nat) (a_wets : Nat) (a_guests : Nat) (a_sights : Nat) (a_remarks : Nat) (a_marks : Nat) (a_past : Nat) (wets : (Nat → Int32)) (host : Int32) (rooms : Int32) (night : Int32) (wheels : Int32) (turned : Int32) (rv : Int32) (sz : Nat) (hf : f_X1_wetNow wets night = some rv) : Met l yX1_wetNow wsX1_wetNow rm_X1_wetNow (sPc D vwCl (s_tys cI cB cZ) [.ref a_this] (wd_X1_wetNow cI cB cZ a_this a_wets a_guests a_sights a_remarks a_marks a_past wets host rooms night wheels turned) sz) (sQi D vwCl (wd_X1_wetNow cI cB cZ a_this a_wets a_guests a_sights a_remarks a_marks a_past wets host rooms night wheels turned) (wd_X1_wetNow cI cB cZ a_this a_wets a_guests a_sights a_remarks a_marks a_past wets host rooms night wheels turned) sz rv) 0 0 (va_A (wd_X1_wetNow cI cB cZ a_this a_wets a_guests a_sights a_remarks a_marks a_past wets host rooms night wheels turned) sz) := by
  refine s_enter_n (cc := cX1_wetNow) (nL := 1) (r := rv) (by decide) rfl (Nat.le_of_ble_eq_true rfl) ?_
  intro p e s m args below meth c A Q C0 hend ls hl hS
  have h := hf
  clear hf
  replace hl : lv_has ls 1 [(0, .ref a_this)] := hl
  unfold f_X1_wetNow at h
  obtain ⟨hx, hb, hml, hown, hts, hK, hA⟩ := id C0
  have inX1 : ∀ w ∈ u_ws RX1 TX1 11, w ∈ wsX1_wetNow := inX1_X1_wetNow
  refine lv_aload_n hx hb dX1_wetNow_0 rfl (lv_at hl 0 rfl) ?_
  refine lv_aload_n hx hb dX1_wetNow_1 rfl (lv_at hl 0 rfl) ?_
  refine s_get (C := RX1) (T := TX1) (N := 11) hx hb hts inX1 hown hK hS 0 rfl rfl 8 (by decide) (hts (.fieldLink RX1 43 "InnTurned$House" "night" "I") (List.mem_of_getElem? (i := 1) rfl)) rfl rfl dX1_wetNow_2 ?_
  obtain ⟨q1, hq1, h⟩ := s_bind h
  refine u_calliV (r := q1) (As := [.int night]) (rest := []) (wc := (wd_X1_wetOf cI cB cZ a_this a_wets a_guests a_sights a_remarks a_marks a_past wets host rooms night wheels turned)) hx hb hml hown hts hK hA hl hS (c_X1_wetOf l D cI cB cZ a_this a_wets a_guests a_sights a_remarks a_marks a_past wets host rooms night wheels turned night _ _ hq1) (cwV 1 hts gX1_wetNow_X1_wetOf rfl rfl rfl (by decide +kernel) ⟨Nat.le_of_ble_eq_true rfl, Nat.le_of_ble_eq_true rfl⟩) 0 rfl rfl [0, 1] rfl rfl rfl rfl (Nat.le_of_ble_eq_true rfl) dX1_wetNow_5 (fun H locs hS => ?_)
  obtain rfl := Option.some.inj h
  exact hend _ _ _ _ dX1_wetNow_8 hS

-- InnTurned$Table.isFull()Z
def wd_X5_isFull (cI cB cZ : ClassId) (a_this : Nat) (a_cells : Nat)  (width : Int32) (most : Int32) (rows : Int32) : va_W := [(a_this, .inr (3, [.int width, .int most, .ref a_cells, .int rows]))]
abbrev rm_X5_isFull : Room := { frames := 0, cells := 0, slots := 0, locals := 0 }
set_option maxRecDepth 20000 in
theorem inX5_X5_isFull : ∀ w ∈ u_ws RX5 TX5 4, w ∈ wsX5_isFull := by decide +kernel
def f_X5_isFull  (most : Int32) (rows : Int32)  : Option (Int32) := (if rows < most then some ((0 : Int32)) else some ((1 : Int32)))
set_option maxHeartbeats 4000000 in
set_option maxRecDepth 100000 in
theorem c_X5_isFull (l : Launch) (D : va_G) (cI cB cZ : ClassId) (a_this : Nat) (a_cells : Nat) (width : Int32) (most : Int32) (rows : Int32) (rv : Int32) (sz : Nat) (hf : f_X5_isFull most rows = some rv) : Met l yX5_isFull wsX5_isFull rm_X5_isFull (sPc D vwCl (s_tys cI cB cZ) [.ref a_this] (wd_X5_isFull cI cB cZ a_this a_cells width most rows) sz) (sQi D vwCl (wd_X5_isFull cI cB cZ a_this a_cells width most rows) (wd_X5_isFull cI cB cZ a_this a_cells width most rows) sz rv) 0 0 (va_A (wd_X5_isFull cI cB cZ a_this a_cells width most rows) sz) := by
  refine s_enter_z (cc := cX5_isFull) (nL := 1) (r := rv) (by decide) rfl (Nat.le_of_ble_eq_true rfl) ?_
  intro p e s m args below meth c A Q C0 hend ls hl hS
  have h := hf
  clear hf
  replace hl : lv_has ls 1 [(0, .ref a_this)] := hl
  unfold f_X5_isFull at h
  obtain ⟨hx, hb, hml, hown, hts, hK, hA⟩ := id C0
  have inX5 : ∀ w ∈ u_ws RX5 TX5 4, w ∈ wsX5_isFull := inX5_X5_isFull
  refine lv_aload_n hx hb dX5_isFull_0 rfl (lv_at hl 0 rfl) ?_
  refine s_get (C := RX5) (T := TX5) (N := 4) hx hb hts inX5 hown hK hS 0 rfl rfl 3 (by decide) (hts (.fieldLink RX5 28 "InnTurned$Table" "rows" "I") (List.mem_of_getElem? (i := 1) rfl)) rfl rfl dX5_isFull_1 ?_
  refine lv_aload_n hx hb dX5_isFull_4 rfl (lv_at hl 0 rfl) ?_
  refine s_get (C := RX5) (T := TX5) (N := 4) hx hb hts inX5 hown hK hS 0 rfl rfl 1 (by decide) (hts (.fieldLink RX5 21 "InnTurned$Table" "most" "I") (List.mem_of_getElem? (i := 2) rfl)) rfl rfl dX5_isFull_5 ?_
  refine lv_icmp_lt (tgt := 15) hx hb dX5_isFull_8 (by decide) (fun c1 => ?_) (fun c1 => ?_)
  · replace h := s_yes c1 h
    refine lv_iconst (v := (0 : Int32)) hx hb dX5_isFull_15 (by decide) ?_
    obtain rfl := Option.some.inj h
    exact hend _ _ _ _ dX5_isFull_16 (Or.inl rfl) hS
  replace h := s_no c1 h
  refine lv_iconst (v := (1 : Int32)) hx hb dX5_isFull_11 (by decide) ?_
  refine lv_goto (tgt := 16) hx hb dX5_isFull_12 (by decide) ?_
  obtain rfl := Option.some.inj h
  exact hend _ _ _ _ dX5_isFull_16 (Or.inr rfl) hS

-- InnTurned$Table.put(III)V
def wd_X5_put (cI cB cZ : ClassId) (a_this : Nat) (a_cells : Nat) (n_cells : Nat) (width : Int32) (most : Int32) (cells : (Nat → Int32)) (rows : Int32) : va_W := [(a_this, .inr (3, [.int width, .int most, .ref a_cells, .int rows])), (a_cells, .inl (cI, n_cells, .inl cells))]
abbrev rm_X5_put : Room := { frames := 0, cells := 0, slots := 0, locals := 0 }
set_option maxRecDepth 20000 in
theorem inX5_X5_put : ∀ w ∈ u_ws RX5 TX5 4, w ∈ wsX5_put := by decide +kernel
def f_X5_put (n_cells : Nat) (width : Int32) (rows : Int32) (cells : (Nat → Int32)) (p1 : Int32) (p2 : Int32) (p3 : Int32) : Option ((Nat → Int32)) := (if p1 < 0 then some (cells) else (if rows ≤ p1 then some (cells) else (if p2 < 0 then some (cells) else (if p2 < width then (if ¬ (((p1 * width) + p2) < 0 ∨ n_cells ≤ (Int32.toNatClampNeg ((p1 * width) + p2))) then some ((upd cells (Int32.toNatClampNeg ((p1 * width) + p2)) p3)) else none) else some (cells)))))
set_option maxHeartbeats 4000000 in
set_option maxRecDepth 100000 in
theorem c_X5_put (l : Launch) (D : va_G) (cI cB cZ : ClassId) (a_this : Nat) (a_cells : Nat) (n_cells : Nat) (width : Int32) (most : Int32) (cells : (Nat → Int32)) (rows : Int32) (p1 : Int32) (p2 : Int32) (p3 : Int32) (rv : (Nat → Int32)) (sz : Nat) (hf : f_X5_put n_cells width rows cells p1 p2 p3 = some rv) : Met l yX5_put wsX5_put rm_X5_put (sPc D vwCl (s_tys cI cB cZ) [.ref a_this, .int p1, .int p2, .int p3] (wd_X5_put cI cB cZ a_this a_cells n_cells width most cells rows) sz) (sQv D vwCl (wd_X5_put cI cB cZ a_this a_cells n_cells width most cells rows) (wd_X5_put cI cB cZ a_this a_cells n_cells width most rv rows) sz) 0 0 (va_A (wd_X5_put cI cB cZ a_this a_cells n_cells width most cells rows) sz) := by
  refine s_enter_v (cc := cX5_put) (nL := 4) (by decide) rfl (Nat.le_of_ble_eq_true rfl) ?_
  intro p e s m args below meth c A Q C0 hend ls hl hS
  have h := hf
  clear hf
  replace hl : lv_has ls 4 [(0, .ref a_this), (1, .int p1), (2, .int p2), (3, .int p3)] := hl
  unfold f_X5_put at h
  obtain ⟨hx, hb, hml, hown, hts, hK, hA⟩ := id C0
  have inX5 : ∀ w ∈ u_ws RX5 TX5 4, w ∈ wsX5_put := inX5_X5_put
  refine lv_iload_n hx hb dX5_put_0 rfl (lv_at hl 1 rfl) ?_
  refine lv_if_lt (tgt := 24) hx hb dX5_put_1 (by decide) (fun c1 => ?_) (fun c1 => ?_)
  · replace h := s_yes c1 h
    obtain rfl := Option.some.inj h
    exact hend _ _ _ _ dX5_put_24 hS
  replace h := s_no c1 h
  refine lv_iload_n hx hb dX5_put_4 rfl (lv_at hl 1 rfl) ?_
  refine lv_aload_n hx hb dX5_put_5 rfl (lv_at hl 0 rfl) ?_
  refine s_get (C := RX5) (T := TX5) (N := 4) hx hb hts inX5 hown hK hS 0 rfl rfl 3 (by decide) (hts (.fieldLink RX5 28 "InnTurned$Table" "rows" "I") (List.mem_of_getElem? (i := 1) rfl)) rfl rfl dX5_put_6 ?_
  refine lv_icmp_ge (tgt := 24) hx hb dX5_put_9 (by decide) (fun c2 => ?_) (fun c2 => ?_)
  · replace h := s_yes c2 h
    obtain rfl := Option.some.inj h
    exact hend _ _ _ _ dX5_put_24 hS
  replace h := s_no c2 h
  refine lv_iload_n hx hb dX5_put_12 rfl (lv_at hl 2 rfl) ?_
  refine lv_if_lt (tgt := 24) hx hb dX5_put_13 (by decide) (fun c3 => ?_) (fun c3 => ?_)
  · replace h := s_yes c3 h
    obtain rfl := Option.some.inj h
    exact hend _ _ _ _ dX5_put_24 hS
  replace h := s_no c3 h
  refine lv_iload_n hx hb dX5_put_16 rfl (lv_at hl 2 rfl) ?_
  refine lv_aload_n hx hb dX5_put_17 rfl (lv_at hl 0 rfl) ?_
  refine s_get (C := RX5) (T := TX5) (N := 4) hx hb hts inX5 hown hK hS 0 rfl rfl 0 (by decide) (hts (.fieldLink RX5 15 "InnTurned$Table" "width" "I") (List.mem_of_getElem? (i := 2) rfl)) rfl rfl dX5_put_18 ?_
  refine lv_icmp_lt (tgt := 25) hx hb dX5_put_21 (by decide) (fun c4 => ?_) (fun c4 => ?_)
  · replace h := s_yes c4 h
    refine lv_aload_n hx hb dX5_put_25 rfl (lv_at hl 0 rfl) ?_
    refine s_get (C := RX5) (T := TX5) (N := 4) hx hb hts inX5 hown hK hS 0 rfl rfl 2 (by decide) (hts (.fieldLink RX5 24 "InnTurned$Table" "cells" "[I") (List.mem_of_getElem? (i := 3) rfl)) rfl rfl dX5_put_26 ?_
    refine lv_iload_n hx hb dX5_put_29 rfl (lv_at hl 1 rfl) ?_
    refine lv_aload_n hx hb dX5_put_30 rfl (lv_at hl 0 rfl) ?_
    refine s_get (C := RX5) (T := TX5) (N := 4) hx hb hts inX5 hown hK hS 0 rfl rfl 0 (by decide) (hts (.fieldLink RX5 15 "InnTurned$Table" "width" "I") (List.mem_of_getElem? (i := 2) rfl)) rfl rfl dX5_put_31 ?_
    refine lv_imul hx hb dX5_put_34 ?_
    refine lv_iload_n hx hb dX5_put_35 rfl (lv_at hl 2 rfl) ?_
    refine lv_iadd hx hb dX5_put_36 ?_
    refine lv_iload_n hx hb dX5_put_37 rfl (lv_at hl 3 rfl) ?_
    obtain ⟨g5, h⟩ := s_guard h
    refine s_iast (ws' := (wd_X5_put cI cB cZ a_this a_cells n_cells width most (upd cells (Int32.toNatClampNeg ((p1 * width) + p2)) p3) rows)) hx hb hK hS 1 rfl rfl g5 rfl dX5_put_38 (fun H locs hS => ?_)
    obtain rfl := Option.some.inj h
    exact hend _ _ _ _ dX5_put_39 hS
  replace h := s_no c4 h
  obtain rfl := Option.some.inj h
  exact hend _ _ _ _ dX5_put_24 hS

-- InnTurned$Table.append()I
def wd_X5_append (cI cB cZ : ClassId) (a_this : Nat) (a_cells : Nat) (n_cells : Nat) (width : Int32) (most : Int32) (cells : (Nat → Int32)) (rows : Int32) : va_W := [(a_this, .inr (3, [.int width, .int most, .ref a_cells, .int rows])), (a_cells, .inl (cI, n_cells, .inl cells))]
abbrev rm_X5_append : Room := { frames := 1, cells := 0, slots := 0, locals := 23 }
set_option maxRecDepth 20000 in
theorem inX5_X5_append : ∀ w ∈ u_ws RX5 TX5 4, w ∈ wsX5_append := by decide +kernel
def f_X5_append_b26 (n_cells : Nat) (width : Int32) (most : Int32) : Nat → (Nat → Int32) → Int32 → Int32 → Int32 → Option (Int32 × (Nat → Int32) × Int32)
  | 0, _, _, _, _ => none
  | fu + 1, cells, rows, l1, l2 => (if width ≤ l2 then some (l1, cells, rows) else ((f_X5_put n_cells width rows cells l1 l2 (0 : Int32)).bind fun q2 => (f_X5_append_b26 n_cells width most fu) q2 rows l1 (l2 + (1 : Int32))))
set_option maxHeartbeats 4000000 in
set_option maxRecDepth 100000 in
theorem w_X5_append_b26 {p : Program} {l : Launch} {e : Env} {s : State} {m : MethodId} {args : Array Value} {below : List Frame} {meth : Method} {c : Code} {A : Nat → Prop} {Q : State → Prop} {D : va_G} {cI cB cZ : ClassId} {a_this a_cells : Nat} {n_cells : Nat} {width : Int32} {most : Int32} (C0 : Cx p s m args c cX5_append 3 RX5 wsX5_append D (s_tys cI cB cZ) A) {rv : Int32 × (Nat → Int32) × Int32} (hend : ∀ (pc : Nat) (H : Heap) (locs : List Loc) (ls : Array Slot), decode cX5_append pc = .ok (.ireturn, 1) → sS D vwCl A s.heap (wd_X5_append cI cB cZ a_this a_cells n_cells width most rv.2.1 rv.2.2) H locs → W p l e rm_X5_append s m args below meth c H locs 0 0 Q (F0 m pc ls [.int rv.1])) : ∀ (fu : Nat) (cells : (Nat → Int32)) (rows : Int32) (l1 : Int32) (l2 : Int32) (H : Heap) (locs : List Loc) (ls : Array Slot), f_X5_append_b26 n_cells width most fu cells rows l1 l2 = some rv → sS D vwCl A s.heap (wd_X5_append cI cB cZ a_this a_cells n_cells width most cells rows) H locs → lv_has ls 3 [(0, .ref a_this), (1, .int l1), (2, .int l2)] → W p l e rm_X5_append s m args below meth c H locs 0 0 Q (F0 m 26 ls []) := by
  obtain ⟨hx, hb, hml, hown, hts, hK, hA⟩ := id C0
  have inX5 : ∀ w ∈ u_ws RX5 TX5 4, w ∈ wsX5_append := inX5_X5_append
  intro fu
  induction fu with
  | zero => intro cells rows l1 l2 H locs ls h; cases h
  | succ fu ih =>
    intro cells rows l1 l2 H locs ls h hS hl
    rw [f_X5_append_b26] at h
    refine lv_iload_n hx hb dX5_append_26 rfl (lv_at hl 2 rfl) ?_
    refine lv_aload_n hx hb dX5_append_27 rfl (lv_at hl 0 rfl) ?_
    refine s_get (C := RX5) (T := TX5) (N := 4) hx hb hts inX5 hown hK hS 0 rfl rfl 0 (by decide) (hts (.fieldLink RX5 15 "InnTurned$Table" "width" "I") (List.mem_of_getElem? (i := 2) rfl)) rfl rfl dX5_append_28 ?_
    refine lv_icmp_ge (tgt := 47) hx hb dX5_append_31 (by decide) (fun c1 => ?_) (fun c1 => ?_)
    · replace h := s_yes c1 h
      refine lv_iload_n hx hb dX5_append_47 rfl (lv_at hl 1 rfl) ?_
      obtain rfl := Option.some.inj h
      exact hend _ _ _ _ dX5_append_48 hS
    replace h := s_no c1 h
    refine lv_aload_n hx hb dX5_append_34 rfl (lv_at hl 0 rfl) ?_
    refine lv_iload_n hx hb dX5_append_35 rfl (lv_at hl 1 rfl) ?_
    refine lv_iload_n hx hb dX5_append_36 rfl (lv_at hl 2 rfl) ?_
    refine lv_iconst (v := (0 : Int32)) hx hb dX5_append_37 (by decide) ?_
    obtain ⟨q2, hq2, h⟩ := s_bind h
    refine r_callvV (As := [.int l1, .int l2, .int (0 : Int32)]) (rest := []) (wc := (wd_X5_put cI cB cZ a_this a_cells n_cells width most cells rows)) (w1 := (wd_X5_put cI cB cZ a_this a_cells n_cells width most q2 rows)) (ws' := (wd_X5_append cI cB cZ a_this a_cells n_cells width most q2 rows)) hx hb hml hown hts hK hA hl hS (c_X5_put l D cI cB cZ a_this a_cells n_cells width most cells rows l1 l2 (0 : Int32) _ _ hq2) (cwV 3 hts gX5_append_X5_put rfl rfl rfl (by decide +kernel) ⟨Nat.le_of_ble_eq_true rfl, Nat.le_of_ble_eq_true rfl⟩) 0 rfl rfl [0, 1] rfl rfl rfl [.inr 0, .inr 1] rfl rfl rfl rfl (Nat.le_of_ble_eq_true rfl) dX5_append_38 (fun H locs hS => ?_)
    refine lv_iinc (v := (l2 + (1 : Int32))) (lv' := [(2, .int (l2 + (1 : Int32))), (0, .ref a_this), (1, .int l1)]) hx hb dX5_append_41 hl (k := 2) rfl rfl (by decide) rfl (fun ls hl => ?_)
    refine lv_goto (tgt := 26) hx hb dX5_append_44 (by decide) ?_
    exact ih q2 rows l1 (l2 + (1 : Int32)) _ _ _ h hS (lv_sub hl [1, 2, 0] rfl)
def f_X5_append (n_cells : Nat) (width : Int32) (most : Int32) (cells : (Nat → Int32)) (rows : Int32) : Option (Int32 × (Nat → Int32) × Int32) := ((f_X5_isFull most rows).bind fun q3 => (if q3 = 0 then f_X5_append_b26  n_cells width most s_fuel cells (rows + (1 : Int32)) rows (0 : Int32) else some ((-1 : Int32), cells, rows)))
set_option maxHeartbeats 4000000 in
set_option maxRecDepth 100000 in
theorem c_X5_append (l : Launch) (D : va_G) (cI cB cZ : ClassId) (a_this : Nat) (a_cells : Nat) (n_cells : Nat) (width : Int32) (most : Int32) (cells : (Nat → Int32)) (rows : Int32) (rv : Int32 × (Nat → Int32) × Int32) (sz : Nat) (hf : f_X5_append n_cells width most cells rows = some rv) : Met l yX5_append wsX5_append rm_X5_append (sPc D vwCl (s_tys cI cB cZ) [.ref a_this] (wd_X5_append cI cB cZ a_this a_cells n_cells width most cells rows) sz) (sQi D vwCl (wd_X5_append cI cB cZ a_this a_cells n_cells width most cells rows) (wd_X5_append cI cB cZ a_this a_cells n_cells width most rv.2.1 rv.2.2) sz rv.1) 0 0 (va_A (wd_X5_append cI cB cZ a_this a_cells n_cells width most cells rows) sz) := by
  refine s_enter_n (cc := cX5_append) (nL := 3) (r := rv.1) (by decide) rfl (Nat.le_of_ble_eq_true rfl) ?_
  intro p e s m args below meth c A Q C0 hend ls hl hS
  have h := hf
  clear hf
  replace hl : lv_has ls 3 [(0, .ref a_this)] := hl
  unfold f_X5_append at h
  obtain ⟨hx, hb, hml, hown, hts, hK, hA⟩ := id C0
  have inX5 : ∀ w ∈ u_ws RX5 TX5 4, w ∈ wsX5_append := inX5_X5_append
  refine lv_aload_n hx hb dX5_append_0 rfl (lv_at hl 0 rfl) ?_
  obtain ⟨q3, hq3, h⟩ := s_bind h
  refine u_calliV (r := q3) (As := []) (rest := []) (wc := (wd_X5_isFull cI cB cZ a_this a_cells width most rows)) hx hb hml hown hts hK hA hl hS (c_X5_isFull l D cI cB cZ a_this a_cells width most rows _ _ hq3) (cwV 0 hts gX5_append_X5_isFull rfl rfl rfl (by decide +kernel) ⟨Nat.le_of_ble_eq_true rfl, Nat.le_of_ble_eq_true rfl⟩) 0 rfl rfl [0] rfl rfl rfl rfl (Nat.le_of_ble_eq_true rfl) dX5_append_1 (fun H locs hS => ?_)
  refine lv_if_eq (tgt := 9) hx hb dX5_append_4 (by decide) (fun c4 => ?_) (fun c4 => ?_)
  · replace h := s_yes c4 h
    refine lv_aload_n hx hb dX5_append_9 rfl (lv_at hl 0 rfl) ?_
    refine s_get (C := RX5) (T := TX5) (N := 4) hx hb hts inX5 hown hK hS 0 rfl rfl 3 (by decide) (hts (.fieldLink RX5 28 "InnTurned$Table" "rows" "I") (List.mem_of_getElem? (i := 1) rfl)) rfl rfl dX5_append_10 ?_
    refine lv_istore_n (lv' := [(1, .int rows), (0, .ref a_this)]) hx hb dX5_append_13 rfl hl (by decide) rfl (fun ls hl => ?_)
    refine lv_aload_n hx hb dX5_append_14 rfl (lv_at hl 1 rfl) ?_
    refine lv_dup hx hb dX5_append_15 rfl ?_
    refine s_get (C := RX5) (T := TX5) (N := 4) hx hb hts inX5 hown hK hS 0 rfl rfl 3 (by decide) (hts (.fieldLink RX5 28 "InnTurned$Table" "rows" "I") (List.mem_of_getElem? (i := 1) rfl)) rfl rfl dX5_append_16 ?_
    refine lv_iconst (v := (1 : Int32)) hx hb dX5_append_19 (by decide) ?_
    refine lv_iadd hx hb dX5_append_20 ?_
    refine s_put (ws' := (wd_X5_append cI cB cZ a_this a_cells n_cells width most cells (rows + (1 : Int32)))) (C := RX5) (T := TX5) (N := 4) hx hb hts inX5 tyX5 tyX5_ok nmX5 hown hK hS 0 rfl rfl 3 (by decide) (hts (.fieldLink RX5 28 "InnTurned$Table" "rows" "I") (List.mem_of_getElem? (i := 1) rfl)) rfl rfl rfl rfl (Nat.le_of_ble_eq_true rfl) rfl dX5_append_21 (fun H locs hS => ?_)
    refine lv_iconst (v := (0 : Int32)) hx hb dX5_append_24 (by decide) ?_
    refine lv_istore_n (lv' := [(2, .int (0 : Int32)), (1, .int rows), (0, .ref a_this)]) hx hb dX5_append_25 rfl hl (by decide) rfl (fun ls hl => ?_)
    exact w_X5_append_b26 C0 hend  s_fuel cells (rows + (1 : Int32)) rows (0 : Int32) _ _ _ h hS (lv_sub hl [2, 1, 0] rfl)
  replace h := s_no c4 h
  refine lv_iconst (v := (-1 : Int32)) hx hb dX5_append_7 (by decide) ?_
  obtain rfl := Option.some.inj h
  exact hend _ _ _ _ dX5_append_8 hS

-- InnTurned$House.welcome(II)I
def wd_X1_welcome (cI cB cZ : ClassId) (a_this : Nat) (a_wets : Nat) (a_guests : Nat) (a_guests_cells : Nat) (a_sights : Nat) (a_remarks : Nat) (a_marks : Nat) (a_past : Nat)  (guests_cells : (Nat → Int32)) (guests_rows : Int32) (host : Int32) (rooms : Int32) (night : Int32) (wheels : Int32) (turned : Int32) : va_W := [(a_this, .inr (0, [.ref a_wets, .ref a_guests, .ref a_sights, .ref a_remarks, .ref a_marks, .ref a_past, .int host, .int rooms, .int night, .int wheels, .int turned])), (a_guests, .inr (3, [.int 4, .int 7, .ref a_guests_cells, .int guests_rows])), (a_guests_cells, .inl (cI, 28, .inl guests_cells))]
abbrev rm_X1_welcome : Room := { frames := 2, cells := 0, slots := 0, locals := 45 }
set_option maxRecDepth 20000 in
theorem inX1_X1_welcome : ∀ w ∈ u_ws RX1 TX1 11, w ∈ wsX1_welcome := by decide +kernel
def f_X1_welcome   (guests_cells : (Nat → Int32)) (guests_rows : Int32) (p1 : Int32) (p2 : Int32) : Option (Int32 × (Nat → Int32) × Int32) := ((f_X5_append 28 (4 : Int32) (7 : Int32) guests_cells guests_rows).bind fun q1 => ((f_X5_put 28 (4 : Int32) q1.2.2 q1.2.1 q1.1 (0 : Int32) p1).bind fun q2 => ((f_X5_put 28 (4 : Int32) q1.2.2 q2 q1.1 (1 : Int32) p2).bind fun q3 => some (q1.1, q3, q1.2.2))))
set_option maxHeartbeats 4000000 in
set_option maxRecDepth 100000 in
theorem c_X1_welcome (l : Launch) (D : va_G) (cI cB cZ : ClassId) (a_this : Nat) (a_wets : Nat) (a_guests : Nat) (a_guests_cells : Nat) (a_sights : Nat) (a_remarks : Nat) (a_marks : Nat) (a_past : Nat) (guests_cells : (Nat → Int32)) (guests_rows : Int32) (host : Int32) (rooms : Int32) (night : Int32) (wheels : Int32) (turned : Int32) (p1 : Int32) (p2 : Int32) (rv : Int32 × (Nat → Int32) × Int32) (sz : Nat) (hf : f_X1_welcome guests_cells guests_rows p1 p2 = some rv) : Met l yX1_welcome wsX1_welcome rm_X1_welcome (sPc D vwCl (s_tys cI cB cZ) [.ref a_this, .int p1, .int p2] (wd_X1_welcome cI cB cZ a_this a_wets a_guests a_guests_cells a_sights a_remarks a_marks a_past guests_cells guests_rows host rooms night wheels turned) sz) (sQi D vwCl (wd_X1_welcome cI cB cZ a_this a_wets a_guests a_guests_cells a_sights a_remarks a_marks a_past guests_cells guests_rows host rooms night wheels turned) (wd_X1_welcome cI cB cZ a_this a_wets a_guests a_guests_cells a_sights a_remarks a_marks a_past rv.2.1 rv.2.2 host rooms night wheels turned) sz rv.1) 0 0 (va_A (wd_X1_welcome cI cB cZ a_this a_wets a_guests a_guests_cells a_sights a_remarks a_marks a_past guests_cells guests_rows host rooms night wheels turned) sz) := by
  refine s_enter_n (cc := cX1_welcome) (nL := 4) (r := rv.1) (by decide) rfl (Nat.le_of_ble_eq_true rfl) ?_
  intro p e s m args below meth c A Q C0 hend ls hl hS
  have h := hf
  clear hf
  replace hl : lv_has ls 4 [(0, .ref a_this), (1, .int p1), (2, .int p2)] := hl
  unfold f_X1_welcome at h
  obtain ⟨hx, hb, hml, hown, hts, hK, hA⟩ := id C0
  have inX1 : ∀ w ∈ u_ws RX1 TX1 11, w ∈ wsX1_welcome := inX1_X1_welcome
  refine lv_aload_n hx hb dX1_welcome_0 rfl (lv_at hl 0 rfl) ?_
  refine s_get (C := RX1) (T := TX1) (N := 11) hx hb hts inX1 hown hK hS 0 rfl rfl 1 (by decide) (hts (.fieldLink RX1 20 "InnTurned$House" "guests" "LInnTurned$Table;") (List.mem_of_getElem? (i := 1) rfl)) rfl rfl dX1_welcome_1 ?_
  obtain ⟨q1, hq1, h⟩ := s_bind h
  refine r_calliV (r := q1.1) (As := []) (rest := []) (wc := (wd_X5_append cI cB cZ a_guests a_guests_cells 28 (4 : Int32) (7 : Int32) guests_cells guests_rows)) (w1 := (wd_X5_append cI cB cZ a_guests a_guests_cells 28 (4 : Int32) (7 : Int32) q1.2.1 q1.2.2)) (ws' := (wd_X1_welcome cI cB cZ a_this a_wets a_guests a_guests_cells a_sights a_remarks a_marks a_past q1.2.1 q1.2.2 host rooms night wheels turned)) hx hb hml hown hts hK hA hl hS (c_X5_append l D cI cB cZ a_guests a_guests_cells 28 (4 : Int32) (7 : Int32) guests_cells guests_rows _ _ hq1) (cwV 0 hts gX1_welcome_X5_append rfl rfl rfl (by decide +kernel) ⟨Nat.le_of_ble_eq_true rfl, Nat.le_of_ble_eq_true rfl⟩) 1 rfl rfl [1, 2] rfl rfl rfl [.inl 0, .inr 0, .inr 1] rfl rfl rfl rfl (Nat.le_of_ble_eq_true rfl) dX1_welcome_4 (fun H locs hS => ?_)
  refine lv_istore_n (lv' := [(3, .int q1.1), (0, .ref a_this), (1, .int p1), (2, .int p2)]) hx hb dX1_welcome_7 rfl hl (by decide) rfl (fun ls hl => ?_)
  refine lv_aload_n hx hb dX1_welcome_8 rfl (lv_at hl 1 rfl) ?_
  refine s_get (C := RX1) (T := TX1) (N := 11) hx hb hts inX1 hown hK hS 0 rfl rfl 1 (by decide) (hts (.fieldLink RX1 20 "InnTurned$House" "guests" "LInnTurned$Table;") (List.mem_of_getElem? (i := 1) rfl)) rfl rfl dX1_welcome_9 ?_
  refine lv_iload_n hx hb dX1_welcome_12 rfl (lv_at hl 0 rfl) ?_
  refine lv_iconst (v := (0 : Int32)) hx hb dX1_welcome_13 (by decide) ?_
  refine lv_iload_n hx hb dX1_welcome_14 rfl (lv_at hl 2 rfl) ?_
  obtain ⟨q2, hq2, h⟩ := s_bind h
  refine r_callvV (As := [.int q1.1, .int (0 : Int32), .int p1]) (rest := []) (wc := (wd_X5_put cI cB cZ a_guests a_guests_cells 28 (4 : Int32) (7 : Int32) q1.2.1 q1.2.2)) (w1 := (wd_X5_put cI cB cZ a_guests a_guests_cells 28 (4 : Int32) (7 : Int32) q2 q1.2.2)) (ws' := (wd_X1_welcome cI cB cZ a_this a_wets a_guests a_guests_cells a_sights a_remarks a_marks a_past q2 q1.2.2 host rooms night wheels turned)) hx hb hml hown hts hK hA hl hS (c_X5_put l D cI cB cZ a_guests a_guests_cells 28 (4 : Int32) (7 : Int32) q1.2.1 q1.2.2 q1.1 (0 : Int32) p1 _ _ hq2) (cwV 3 hts gX1_welcome_X5_put rfl rfl rfl (by decide +kernel) ⟨Nat.le_of_ble_eq_true rfl, Nat.le_of_ble_eq_true rfl⟩) 1 rfl rfl [1, 2] rfl rfl rfl [.inl 0, .inr 0, .inr 1] rfl rfl rfl rfl (Nat.le_of_ble_eq_true rfl) dX1_welcome_15 (fun H locs hS => ?_)
  refine lv_aload_n hx hb dX1_welcome_18 rfl (lv_at hl 1 rfl) ?_
  refine s_get (C := RX1) (T := TX1) (N := 11) hx hb hts inX1 hown hK hS 0 rfl rfl 1 (by decide) (hts (.fieldLink RX1 20 "InnTurned$House" "guests" "LInnTurned$Table;") (List.mem_of_getElem? (i := 1) rfl)) rfl rfl dX1_welcome_19 ?_
  refine lv_iload_n hx hb dX1_welcome_22 rfl (lv_at hl 0 rfl) ?_
  refine lv_iconst (v := (1 : Int32)) hx hb dX1_welcome_23 (by decide) ?_
  refine lv_iload_n hx hb dX1_welcome_24 rfl (lv_at hl 3 rfl) ?_
  obtain ⟨q3, hq3, h⟩ := s_bind h
  refine r_callvV (As := [.int q1.1, .int (1 : Int32), .int p2]) (rest := []) (wc := (wd_X5_put cI cB cZ a_guests a_guests_cells 28 (4 : Int32) (7 : Int32) q2 q1.2.2)) (w1 := (wd_X5_put cI cB cZ a_guests a_guests_cells 28 (4 : Int32) (7 : Int32) q3 q1.2.2)) (ws' := (wd_X1_welcome cI cB cZ a_this a_wets a_guests a_guests_cells a_sights a_remarks a_marks a_past q3 q1.2.2 host rooms night wheels turned)) hx hb hml hown hts hK hA hl hS (c_X5_put l D cI cB cZ a_guests a_guests_cells 28 (4 : Int32) (7 : Int32) q2 q1.2.2 q1.1 (1 : Int32) p2 _ _ hq3) (cwV 3 hts gX1_welcome_X5_put rfl rfl rfl (by decide +kernel) ⟨Nat.le_of_ble_eq_true rfl, Nat.le_of_ble_eq_true rfl⟩) 1 rfl rfl [1, 2] rfl rfl rfl [.inl 0, .inr 0, .inr 1] rfl rfl rfl rfl (Nat.le_of_ble_eq_true rfl) dX1_welcome_25 (fun H locs hS => ?_)
  refine lv_iload_n hx hb dX1_welcome_28 rfl (lv_at hl 0 rfl) ?_
  obtain rfl := Option.some.inj h
  exact hend _ _ _ _ dX1_welcome_29 hS

-- InnTurned.within(III)Z
abbrev rm_X8_within : Room := { frames := 0, cells := 0, slots := 0, locals := 0 }
def f_X8_within    (p1 : Int32) (p2 : Int32) (p3 : Int32) : Option (Int32) := (if p1 < p2 then some ((0 : Int32)) else (if p3 < p1 then some ((0 : Int32)) else some ((1 : Int32))))
set_option maxHeartbeats 4000000 in
set_option maxRecDepth 100000 in
theorem c_X8_within (l : Launch) (D : va_G) (cI cB cZ : ClassId) (p1 : Int32) (p2 : Int32) (p3 : Int32) (rv : Int32) (sz : Nat) (hf : f_X8_within p1 p2 p3 = some rv) : Met l yX8_within wsX8_within rm_X8_within (sPc D vwCl (s_tys cI cB cZ) [.int p1, .int p2, .int p3] ([] : va_W) sz) (sQi D vwCl ([] : va_W) ([] : va_W) sz rv) 0 0 (va_A ([] : va_W) sz) := by
  refine s_enter_z (cc := cX8_within) (nL := 3) (r := rv) (by decide) rfl (Nat.le_of_ble_eq_true rfl) ?_
  intro p e s m args below meth c A Q C0 hend ls hl hS
  have h := hf
  clear hf
  replace hl : lv_has ls 3 [(0, .int p1), (1, .int p2), (2, .int p3)] := hl
  unfold f_X8_within at h
  obtain ⟨hx, hb, hml, hown, hts, hK, hA⟩ := id C0
  refine lv_iload_n hx hb dX8_within_0 rfl (lv_at hl 0 rfl) ?_
  refine lv_iload_n hx hb dX8_within_1 rfl (lv_at hl 1 rfl) ?_
  refine lv_icmp_lt (tgt := 14) hx hb dX8_within_2 (by decide) (fun c1 => ?_) (fun c1 => ?_)
  · replace h := s_yes c1 h
    refine lv_iconst (v := (0 : Int32)) hx hb dX8_within_14 (by decide) ?_
    obtain rfl := Option.some.inj h
    exact hend _ _ _ _ dX8_within_15 (Or.inl rfl) hS
  replace h := s_no c1 h
  refine lv_iload_n hx hb dX8_within_5 rfl (lv_at hl 0 rfl) ?_
  refine lv_iload_n hx hb dX8_within_6 rfl (lv_at hl 2 rfl) ?_
  refine lv_icmp_gt (tgt := 14) hx hb dX8_within_7 (by decide) (fun c2 => ?_) (fun c2 => ?_)
  · replace h := s_yes c2 h
    refine lv_iconst (v := (0 : Int32)) hx hb dX8_within_14 (by decide) ?_
    obtain rfl := Option.some.inj h
    exact hend _ _ _ _ dX8_within_15 (Or.inl rfl) hS
  replace h := s_no c2 h
  refine lv_iconst (v := (1 : Int32)) hx hb dX8_within_10 (by decide) ?_
  refine lv_goto (tgt := 15) hx hb dX8_within_11 (by decide) ?_
  obtain rfl := Option.some.inj h
  exact hend _ _ _ _ dX8_within_15 (Or.inr rfl) hS

-- InnTurned$House.isThere(I)Z
def wd_X1_isThere (cI cB cZ : ClassId) (a_this : Nat) (a_wets : Nat) (a_guests : Nat) (a_guests_cells : Nat) (a_sights : Nat) (a_remarks : Nat) (a_marks : Nat) (a_past : Nat)  (guests_rows : Int32) (host : Int32) (rooms : Int32) (night : Int32) (wheels : Int32) (turned : Int32) : va_W := [(a_this, .inr (0, [.ref a_wets, .ref a_guests, .ref a_sights, .ref a_remarks, .ref a_marks, .ref a_past, .int host, .int rooms, .int night, .int wheels, .int turned])), (a_guests, .inr (3, [.int 4, .int 7, .ref a_guests_cells, .int guests_rows]))]
abbrev rm_X1_isThere : Room := { frames := 1, cells := 0, slots := 0, locals := 22 }
set_option maxRecDepth 20000 in
theorem inX1_X1_isThere : ∀ w ∈ u_ws RX1 TX1 11, w ∈ wsX1_isThere := by decide +kernel
set_option maxRecDepth 20000 in
theorem inX5_X1_isThere : ∀ w ∈ u_ws RX5 TX5 4, w ∈ wsX1_isThere := by decide +kernel
def f_X1_isThere  (guests_rows : Int32)  (p1 : Int32) : Option (Int32) := ((f_X8_within p1 (0 : Int32) (guests_rows - (1 : Int32))).bind fun q1 => (if q1 = 0 ∨ q1 = 1 then some (q1) else none))
set_option maxHeartbeats 4000000 in
set_option maxRecDepth 100000 in
theorem c_X1_isThere (l : Launch) (D : va_G) (cI cB cZ : ClassId) (a_this : Nat) (a_wets : Nat) (a_guests : Nat) (a_guests_cells : Nat) (a_sights : Nat) (a_remarks : Nat) (a_marks : Nat) (a_past : Nat) (guests_rows : Int32) (host : Int32) (rooms : Int32) (night : Int32) (wheels : Int32) (turned : Int32) (p1 : Int32) (rv : Int32) (sz : Nat) (hf : f_X1_isThere guests_rows p1 = some rv) : Met l yX1_isThere wsX1_isThere rm_X1_isThere (sPc D vwCl (s_tys cI cB cZ) [.ref a_this, .int p1] (wd_X1_isThere cI cB cZ a_this a_wets a_guests a_guests_cells a_sights a_remarks a_marks a_past guests_rows host rooms night wheels turned) sz) (sQi D vwCl (wd_X1_isThere cI cB cZ a_this a_wets a_guests a_guests_cells a_sights a_remarks a_marks a_past guests_rows host rooms night wheels turned) (wd_X1_isThere cI cB cZ a_this a_wets a_guests a_guests_cells a_sights a_remarks a_marks a_past guests_rows host rooms night wheels turned) sz rv) 0 0 (va_A (wd_X1_isThere cI cB cZ a_this a_wets a_guests a_guests_cells a_sights a_remarks a_marks a_past guests_rows host rooms night wheels turned) sz) := by
  refine s_enter_z (cc := cX1_isThere) (nL := 2) (r := rv) (by decide) rfl (Nat.le_of_ble_eq_true rfl) ?_
  intro p e s m args below meth c A Q C0 hend ls hl hS
  have h := hf
  clear hf
  replace hl : lv_has ls 2 [(0, .ref a_this), (1, .int p1)] := hl
  unfold f_X1_isThere at h
  obtain ⟨hx, hb, hml, hown, hts, hK, hA⟩ := id C0
  have inX1 : ∀ w ∈ u_ws RX1 TX1 11, w ∈ wsX1_isThere := inX1_X1_isThere
  have inX5 : ∀ w ∈ u_ws RX5 TX5 4, w ∈ wsX1_isThere := inX5_X1_isThere
  refine lv_iload_n hx hb dX1_isThere_0 rfl (lv_at hl 1 rfl) ?_
  refine lv_iconst (v := (0 : Int32)) hx hb dX1_isThere_1 (by decide) ?_
  refine lv_aload_n hx hb dX1_isThere_2 rfl (lv_at hl 0 rfl) ?_
  refine s_get (C := RX1) (T := TX1) (N := 11) hx hb hts inX1 hown hK hS 0 rfl rfl 1 (by decide) (hts (.fieldLink RX1 20 "InnTurned$House" "guests" "LInnTurned$Table;") (List.mem_of_getElem? (i := 1) rfl)) rfl rfl dX1_isThere_3 ?_
  refine s_getN (C := RX5) (T := TX5) (N := 4) hx hb hts inX5 hown hK hS 1 rfl rfl 3 (by decide) 4 rfl rfl rfl dX1_isThere_6 ?_
  refine lv_iconst (v := (1 : Int32)) hx hb dX1_isThere_9 (by decide) ?_
  refine lv_isub hx hb dX1_isThere_10 ?_
  obtain ⟨q1, hq1, h⟩ := s_bind h
  refine u_calliN (host := "InnTurned") (r := q1) (As := [.int p1, .int (0 : Int32), .int (guests_rows - (1 : Int32))]) (rest := []) (wc := ([] : va_W)) hx hb hml hown hts hK hA hl hS (c_X8_within l D cI cB cZ p1 (0 : Int32) (guests_rows - (1 : Int32)) _ _ hq1) ⟨va_cnB 3 hts gX1_isThere_X8_within_n77 rfl rfl rfl (hK.2 _ (List.mem_of_getElem? (i := 34) rfl)) (hts (.initialized RX8) (List.mem_of_getElem? (i := 3) rfl)) (by decide +kernel) ⟨Nat.le_of_ble_eq_true rfl, Nat.le_of_ble_eq_true rfl⟩, (hts (.static yX8_within) (List.mem_of_getElem? (i := 2) rfl)), trivial⟩ [] rfl rfl rfl rfl (Nat.le_of_ble_eq_true rfl) dX1_isThere_11 (fun H locs hS => ?_)
  obtain ⟨g2, h⟩ := s_guard h
  obtain rfl := Option.some.inj h
  exact hend _ _ _ _ dX1_isThere_14 g2 hS

-- InnTurned$Table.cell(II)I
def wd_X5_cell (cI cB cZ : ClassId) (a_this : Nat) (a_cells : Nat) (n_cells : Nat) (width : Int32) (most : Int32) (cells : (Nat → Int32)) (rows : Int32) : va_W := [(a_this, .inr (3, [.int width, .int most, .ref a_cells, .int rows])), (a_cells, .inl (cI, n_cells, .inl cells))]
abbrev rm_X5_cell : Room := { frames := 0, cells := 0, slots := 0, locals := 0 }
set_option maxRecDepth 20000 in
theorem inX5_X5_cell : ∀ w ∈ u_ws RX5 TX5 4, w ∈ wsX5_cell := by decide +kernel
def f_X5_cell (n_cells : Nat) (width : Int32) (cells : (Nat → Int32)) (rows : Int32)  (p1 : Int32) (p2 : Int32) : Option (Int32) := (if p1 < 0 then some ((0 : Int32)) else (if rows ≤ p1 then some ((0 : Int32)) else (if p2 < 0 then some ((0 : Int32)) else (if p2 < width then (if ¬ (((p1 * width) + p2) < 0 ∨ n_cells ≤ (Int32.toNatClampNeg ((p1 * width) + p2))) then some ((cells (Int32.toNatClampNeg ((p1 * width) + p2)))) else none) else some ((0 : Int32))))))
set_option maxHeartbeats 4000000 in
set_option maxRecDepth 100000 in
theorem c_X5_cell (l : Launch) (D : va_G) (cI cB cZ : ClassId) (a_this : Nat) (a_cells : Nat) (n_cells : Nat) (width : Int32) (most : Int32) (cells : (Nat → Int32)) (rows : Int32) (p1 : Int32) (p2 : Int32) (rv : Int32) (sz : Nat) (hf : f_X5_cell n_cells width cells rows p1 p2 = some rv) : Met l yX5_cell wsX5_cell rm_X5_cell (sPc D vwCl (s_tys cI cB cZ) [.ref a_this, .int p1, .int p2] (wd_X5_cell cI cB cZ a_this a_cells n_cells width most cells rows) sz) (sQi D vwCl (wd_X5_cell cI cB cZ a_this a_cells n_cells width most cells rows) (wd_X5_cell cI cB cZ a_this a_cells n_cells width most cells rows) sz rv) 0 0 (va_A (wd_X5_cell cI cB cZ a_this a_cells n_cells width most cells rows) sz) := by
  refine s_enter_n (cc := cX5_cell) (nL := 3) (r := rv) (by decide) rfl (Nat.le_of_ble_eq_true rfl) ?_
  intro p e s m args below meth c A Q C0 hend ls hl hS
  have h := hf
  clear hf
  replace hl : lv_has ls 3 [(0, .ref a_this), (1, .int p1), (2, .int p2)] := hl
  unfold f_X5_cell at h
  obtain ⟨hx, hb, hml, hown, hts, hK, hA⟩ := id C0
  have inX5 : ∀ w ∈ u_ws RX5 TX5 4, w ∈ wsX5_cell := inX5_X5_cell
  refine lv_iload_n hx hb dX5_cell_0 rfl (lv_at hl 1 rfl) ?_
  refine lv_if_lt (tgt := 24) hx hb dX5_cell_1 (by decide) (fun c1 => ?_) (fun c1 => ?_)
  · replace h := s_yes c1 h
    refine lv_iconst (v := (0 : Int32)) hx hb dX5_cell_24 (by decide) ?_
    obtain rfl := Option.some.inj h
    exact hend _ _ _ _ dX5_cell_25 hS
  replace h := s_no c1 h
  refine lv_iload_n hx hb dX5_cell_4 rfl (lv_at hl 1 rfl) ?_
  refine lv_aload_n hx hb dX5_cell_5 rfl (lv_at hl 0 rfl) ?_
  refine s_get (C := RX5) (T := TX5) (N := 4) hx hb hts inX5 hown hK hS 0 rfl rfl 3 (by decide) (hts (.fieldLink RX5 28 "InnTurned$Table" "rows" "I") (List.mem_of_getElem? (i := 1) rfl)) rfl rfl dX5_cell_6 ?_
  refine lv_icmp_ge (tgt := 24) hx hb dX5_cell_9 (by decide) (fun c2 => ?_) (fun c2 => ?_)
  · replace h := s_yes c2 h
    refine lv_iconst (v := (0 : Int32)) hx hb dX5_cell_24 (by decide) ?_
    obtain rfl := Option.some.inj h
    exact hend _ _ _ _ dX5_cell_25 hS
  replace h := s_no c2 h
  refine lv_iload_n hx hb dX5_cell_12 rfl (lv_at hl 2 rfl) ?_
  refine lv_if_lt (tgt := 24) hx hb dX5_cell_13 (by decide) (fun c3 => ?_) (fun c3 => ?_)
  · replace h := s_yes c3 h
    refine lv_iconst (v := (0 : Int32)) hx hb dX5_cell_24 (by decide) ?_
    obtain rfl := Option.some.inj h
    exact hend _ _ _ _ dX5_cell_25 hS
  replace h := s_no c3 h
  refine lv_iload_n hx hb dX5_cell_16 rfl (lv_at hl 2 rfl) ?_
  refine lv_aload_n hx hb dX5_cell_17 rfl (lv_at hl 0 rfl) ?_
  refine s_get (C := RX5) (T := TX5) (N := 4) hx hb hts inX5 hown hK hS 0 rfl rfl 0 (by decide) (hts (.fieldLink RX5 15 "InnTurned$Table" "width" "I") (List.mem_of_getElem? (i := 2) rfl)) rfl rfl dX5_cell_18 ?_
  refine lv_icmp_lt (tgt := 26) hx hb dX5_cell_21 (by decide) (fun c4 => ?_) (fun c4 => ?_)
  · replace h := s_yes c4 h
    refine lv_aload_n hx hb dX5_cell_26 rfl (lv_at hl 0 rfl) ?_
    refine s_get (C := RX5) (T := TX5) (N := 4) hx hb hts inX5 hown hK hS 0 rfl rfl 2 (by decide) (hts (.fieldLink RX5 24 "InnTurned$Table" "cells" "[I") (List.mem_of_getElem? (i := 3) rfl)) rfl rfl dX5_cell_27 ?_
    refine lv_iload_n hx hb dX5_cell_30 rfl (lv_at hl 1 rfl) ?_
    refine lv_aload_n hx hb dX5_cell_31 rfl (lv_at hl 0 rfl) ?_
    refine s_get (C := RX5) (T := TX5) (N := 4) hx hb hts inX5 hown hK hS 0 rfl rfl 0 (by decide) (hts (.fieldLink RX5 15 "InnTurned$Table" "width" "I") (List.mem_of_getElem? (i := 2) rfl)) rfl rfl dX5_cell_32 ?_
    refine lv_imul hx hb dX5_cell_35 ?_
    refine lv_iload_n hx hb dX5_cell_36 rfl (lv_at hl 2 rfl) ?_
    refine lv_iadd hx hb dX5_cell_37 ?_
    obtain ⟨g5, h⟩ := s_guard h
    refine s_iald hx hb hK hS 1 rfl rfl g5 dX5_cell_38 ?_
    obtain rfl := Option.some.inj h
    exact hend _ _ _ _ dX5_cell_39 hS
  replace h := s_no c4 h
  refine lv_iconst (v := (0 : Int32)) hx hb dX5_cell_24 (by decide) ?_
  obtain rfl := Option.some.inj h
  exact hend _ _ _ _ dX5_cell_25 hS

-- InnTurned$House.isIn(I)Z
def wd_X1_isIn (cI cB cZ : ClassId) (a_this : Nat) (a_wets : Nat) (a_guests : Nat) (a_guests_cells : Nat) (a_sights : Nat) (a_remarks : Nat) (a_marks : Nat) (a_past : Nat)  (guests_cells : (Nat → Int32)) (guests_rows : Int32) (host : Int32) (rooms : Int32) (night : Int32) (wheels : Int32) (turned : Int32) : va_W := [(a_this, .inr (0, [.ref a_wets, .ref a_guests, .ref a_sights, .ref a_remarks, .ref a_marks, .ref a_past, .int host, .int rooms, .int night, .int wheels, .int turned])), (a_guests, .inr (3, [.int 4, .int 7, .ref a_guests_cells, .int guests_rows])), (a_guests_cells, .inl (cI, 28, .inl guests_cells))]
abbrev rm_X1_isIn : Room := { frames := 1, cells := 0, slots := 0, locals := 22 }
set_option maxRecDepth 20000 in
theorem inX1_X1_isIn : ∀ w ∈ u_ws RX1 TX1 11, w ∈ wsX1_isIn := by decide +kernel
def f_X1_isIn  (guests_cells : (Nat → Int32)) (guests_rows : Int32)  (p1 : Int32) : Option (Int32) := ((f_X5_cell 28 (4 : Int32) guests_cells guests_rows p1 (3 : Int32)).bind fun q1 => (if q1 = (1 : Int32) then some ((1 : Int32)) else some ((0 : Int32))))
set_option maxHeartbeats 4000000 in
set_option maxRecDepth 100000 in
theorem c_X1_isIn (l : Launch) (D : va_G) (cI cB cZ : ClassId) (a_this : Nat) (a_wets : Nat) (a_guests : Nat) (a_guests_cells : Nat) (a_sights : Nat) (a_remarks : Nat) (a_marks : Nat) (a_past : Nat) (guests_cells : (Nat → Int32)) (guests_rows : Int32) (host : Int32) (rooms : Int32) (night : Int32) (wheels : Int32) (turned : Int32) (p1 : Int32) (rv : Int32) (sz : Nat) (hf : f_X1_isIn guests_cells guests_rows p1 = some rv) : Met l yX1_isIn wsX1_isIn rm_X1_isIn (sPc D vwCl (s_tys cI cB cZ) [.ref a_this, .int p1] (wd_X1_isIn cI cB cZ a_this a_wets a_guests a_guests_cells a_sights a_remarks a_marks a_past guests_cells guests_rows host rooms night wheels turned) sz) (sQi D vwCl (wd_X1_isIn cI cB cZ a_this a_wets a_guests a_guests_cells a_sights a_remarks a_marks a_past guests_cells guests_rows host rooms night wheels turned) (wd_X1_isIn cI cB cZ a_this a_wets a_guests a_guests_cells a_sights a_remarks a_marks a_past guests_cells guests_rows host rooms night wheels turned) sz rv) 0 0 (va_A (wd_X1_isIn cI cB cZ a_this a_wets a_guests a_guests_cells a_sights a_remarks a_marks a_past guests_cells guests_rows host rooms night wheels turned) sz) := by
  refine s_enter_z (cc := cX1_isIn) (nL := 2) (r := rv) (by decide) rfl (Nat.le_of_ble_eq_true rfl) ?_
  intro p e s m args below meth c A Q C0 hend ls hl hS
  have h := hf
  clear hf
  replace hl : lv_has ls 2 [(0, .ref a_this), (1, .int p1)] := hl
  unfold f_X1_isIn at h
  obtain ⟨hx, hb, hml, hown, hts, hK, hA⟩ := id C0
  have inX1 : ∀ w ∈ u_ws RX1 TX1 11, w ∈ wsX1_isIn := inX1_X1_isIn
  refine lv_aload_n hx hb dX1_isIn_0 rfl (lv_at hl 0 rfl) ?_
  refine s_get (C := RX1) (T := TX1) (N := 11) hx hb hts inX1 hown hK hS 0 rfl rfl 1 (by decide) (hts (.fieldLink RX1 20 "InnTurned$House" "guests" "LInnTurned$Table;") (List.mem_of_getElem? (i := 1) rfl)) rfl rfl dX1_isIn_1 ?_
  refine lv_iload_n hx hb dX1_isIn_4 rfl (lv_at hl 1 rfl) ?_
  refine lv_iconst (v := (3 : Int32)) hx hb dX1_isIn_5 (by decide) ?_
  obtain ⟨q1, hq1, h⟩ := s_bind h
  refine u_calliV (r := q1) (As := [.int p1, .int (3 : Int32)]) (rest := []) (wc := (wd_X5_cell cI cB cZ a_guests a_guests_cells 28 (4 : Int32) (7 : Int32) guests_cells guests_rows)) hx hb hml hown hts hK hA hl hS (c_X5_cell l D cI cB cZ a_guests a_guests_cells 28 (4 : Int32) (7 : Int32) guests_cells guests_rows p1 (3 : Int32) _ _ hq1) (cwV 2 hts gX1_isIn_X5_cell rfl rfl rfl (by decide +kernel) ⟨Nat.le_of_ble_eq_true rfl, Nat.le_of_ble_eq_true rfl⟩) 1 rfl rfl [1, 2] rfl rfl rfl rfl (Nat.le_of_ble_eq_true rfl) dX1_isIn_6 (fun H locs hS => ?_)
  refine lv_iconst (v := (1 : Int32)) hx hb dX1_isIn_9 (by decide) ?_
  refine lv_icmp_ne (tgt := 17) hx hb dX1_isIn_10 (by decide) (fun c2 => ?_) (fun c2 => ?_)
  · replace h := s_no c2 h
    refine lv_iconst (v := (0 : Int32)) hx hb dX1_isIn_17 (by decide) ?_
    obtain rfl := Option.some.inj h
    exact hend _ _ _ _ dX1_isIn_18 (Or.inl rfl) hS
  replace h := s_yes c2 h
  refine lv_iconst (v := (1 : Int32)) hx hb dX1_isIn_13 (by decide) ?_
  refine lv_goto (tgt := 18) hx hb dX1_isIn_14 (by decide) ?_
  obtain rfl := Option.some.inj h
  exact hend _ _ _ _ dX1_isIn_18 (Or.inr rfl) hS

-- InnTurned$Table.sum(I)I
def wd_X5_sum (cI cB cZ : ClassId) (a_this : Nat) (a_cells : Nat) (n_cells : Nat) (width : Int32) (most : Int32) (cells : (Nat → Int32)) (rows : Int32) : va_W := [(a_this, .inr (3, [.int width, .int most, .ref a_cells, .int rows])), (a_cells, .inl (cI, n_cells, .inl cells))]
abbrev rm_X5_sum : Room := { frames := 1, cells := 0, slots := 0, locals := 22 }
set_option maxRecDepth 20000 in
theorem inX5_X5_sum : ∀ w ∈ u_ws RX5 TX5 4, w ∈ wsX5_sum := by decide +kernel
def f_X5_sum_b4 (n_cells : Nat) (width : Int32) (cells : (Nat → Int32)) (rows : Int32) : Nat → Int32 → Int32 → Int32 → Option (Int32)
  | 0, _, _, _ => none
  | fu + 1, l1, l2, l3 => (if rows ≤ l3 then some (l2) else ((f_X5_cell n_cells width cells rows l3 l1).bind fun q2 => (f_X5_sum_b4 n_cells width cells rows fu) l1 (l2 + q2) (l3 + (1 : Int32))))
set_option maxHeartbeats 4000000 in
set_option maxRecDepth 100000 in
theorem w_X5_sum_b4 {p : Program} {l : Launch} {e : Env} {s : State} {m : MethodId} {args : Array Value} {below : List Frame} {meth : Method} {c : Code} {A : Nat → Prop} {Q : State → Prop} {D : va_G} {cI cB cZ : ClassId} {a_this a_cells : Nat} {n_cells : Nat} {width : Int32} {most : Int32} {cells : (Nat → Int32)} {rows : Int32} (C0 : Cx p s m args c cX5_sum 4 RX5 wsX5_sum D (s_tys cI cB cZ) A) {rv : Int32} (hend : ∀ (pc : Nat) (H : Heap) (locs : List Loc) (ls : Array Slot), decode cX5_sum pc = .ok (.ireturn, 1) → sS D vwCl A s.heap (wd_X5_sum cI cB cZ a_this a_cells n_cells width most cells rows) H locs → W p l e rm_X5_sum s m args below meth c H locs 0 0 Q (F0 m pc ls [.int rv])) : ∀ (fu : Nat)  (l1 : Int32) (l2 : Int32) (l3 : Int32) (H : Heap) (locs : List Loc) (ls : Array Slot), f_X5_sum_b4 n_cells width cells rows fu l1 l2 l3 = some rv → sS D vwCl A s.heap (wd_X5_sum cI cB cZ a_this a_cells n_cells width most cells rows) H locs → lv_has ls 4 [(0, .ref a_this), (1, .int l1), (2, .int l2), (3, .int l3)] → W p l e rm_X5_sum s m args below meth c H locs 0 0 Q (F0 m 4 ls []) := by
  obtain ⟨hx, hb, hml, hown, hts, hK, hA⟩ := id C0
  have inX5 : ∀ w ∈ u_ws RX5 TX5 4, w ∈ wsX5_sum := inX5_X5_sum
  intro fu
  induction fu with
  | zero => intro l1 l2 l3 H locs ls h; cases h
  | succ fu ih =>
    intro l1 l2 l3 H locs ls h hS hl
    rw [f_X5_sum_b4] at h
    refine lv_iload_n hx hb dX5_sum_4 rfl (lv_at hl 3 rfl) ?_
    refine lv_aload_n hx hb dX5_sum_5 rfl (lv_at hl 0 rfl) ?_
    refine s_get (C := RX5) (T := TX5) (N := 4) hx hb hts inX5 hown hK hS 0 rfl rfl 3 (by decide) (hts (.fieldLink RX5 28 "InnTurned$Table" "rows" "I") (List.mem_of_getElem? (i := 1) rfl)) rfl rfl dX5_sum_6 ?_
    refine lv_icmp_ge (tgt := 27) hx hb dX5_sum_9 (by decide) (fun c1 => ?_) (fun c1 => ?_)
    · replace h := s_yes c1 h
      refine lv_iload_n hx hb dX5_sum_27 rfl (lv_at hl 2 rfl) ?_
      obtain rfl := Option.some.inj h
      exact hend _ _ _ _ dX5_sum_28 hS
    replace h := s_no c1 h
    refine lv_iload_n hx hb dX5_sum_12 rfl (lv_at hl 2 rfl) ?_
    refine lv_aload_n hx hb dX5_sum_13 rfl (lv_at hl 0 rfl) ?_
    refine lv_iload_n hx hb dX5_sum_14 rfl (lv_at hl 3 rfl) ?_
    refine lv_iload_n hx hb dX5_sum_15 rfl (lv_at hl 1 rfl) ?_
    obtain ⟨q2, hq2, h⟩ := s_bind h
    refine u_calliV (r := q2) (As := [.int l3, .int l1]) (rest := [.int l2]) (wc := (wd_X5_cell cI cB cZ a_this a_cells n_cells width most cells rows)) hx hb hml hown hts hK hA hl hS (c_X5_cell l D cI cB cZ a_this a_cells n_cells width most cells rows l3 l1 _ _ hq2) (cwV 2 hts gX5_sum_X5_cell rfl rfl rfl (by decide +kernel) ⟨Nat.le_of_ble_eq_true rfl, Nat.le_of_ble_eq_true rfl⟩) 0 rfl rfl [0, 1] rfl rfl rfl rfl (Nat.le_of_ble_eq_true rfl) dX5_sum_16 (fun H locs hS => ?_)
    refine lv_iadd hx hb dX5_sum_19 ?_
    refine lv_istore_n (lv' := [(2, .int (l2 + q2)), (0, .ref a_this), (1, .int l1), (3, .int l3)]) hx hb dX5_sum_20 rfl hl (by decide) rfl (fun ls hl => ?_)
    refine lv_iinc (v := (l3 + (1 : Int32))) (lv' := [(3, .int (l3 + (1 : Int32))), (2, .int (l2 + q2)), (0, .ref a_this), (1, .int l1)]) hx hb dX5_sum_21 hl (k := 3) rfl rfl (by decide) rfl (fun ls hl => ?_)
    refine lv_goto (tgt := 4) hx hb dX5_sum_24 (by decide) ?_
    exact ih l1 (l2 + q2) (l3 + (1 : Int32)) _ _ _ h hS (lv_sub hl [2, 3, 1, 0] rfl)
def f_X5_sum (n_cells : Nat) (width : Int32) (cells : (Nat → Int32)) (rows : Int32)  (p1 : Int32) : Option (Int32) := f_X5_sum_b4  n_cells width cells rows s_fuel p1 (0 : Int32) (0 : Int32)
set_option maxHeartbeats 4000000 in
set_option maxRecDepth 100000 in
theorem c_X5_sum (l : Launch) (D : va_G) (cI cB cZ : ClassId) (a_this : Nat) (a_cells : Nat) (n_cells : Nat) (width : Int32) (most : Int32) (cells : (Nat → Int32)) (rows : Int32) (p1 : Int32) (rv : Int32) (sz : Nat) (hf : f_X5_sum n_cells width cells rows p1 = some rv) : Met l yX5_sum wsX5_sum rm_X5_sum (sPc D vwCl (s_tys cI cB cZ) [.ref a_this, .int p1] (wd_X5_sum cI cB cZ a_this a_cells n_cells width most cells rows) sz) (sQi D vwCl (wd_X5_sum cI cB cZ a_this a_cells n_cells width most cells rows) (wd_X5_sum cI cB cZ a_this a_cells n_cells width most cells rows) sz rv) 0 0 (va_A (wd_X5_sum cI cB cZ a_this a_cells n_cells width most cells rows) sz) := by
  refine s_enter_n (cc := cX5_sum) (nL := 4) (r := rv) (by decide) rfl (Nat.le_of_ble_eq_true rfl) ?_
  intro p e s m args below meth c A Q C0 hend ls hl hS
  have h := hf
  clear hf
  replace hl : lv_has ls 4 [(0, .ref a_this), (1, .int p1)] := hl
  unfold f_X5_sum at h
  obtain ⟨hx, hb, hml, hown, hts, hK, hA⟩ := id C0
  have inX5 : ∀ w ∈ u_ws RX5 TX5 4, w ∈ wsX5_sum := inX5_X5_sum
  refine lv_iconst (v := (0 : Int32)) hx hb dX5_sum_0 (by decide) ?_
  refine lv_istore_n (lv' := [(2, .int (0 : Int32)), (0, .ref a_this), (1, .int p1)]) hx hb dX5_sum_1 rfl hl (by decide) rfl (fun ls hl => ?_)
  refine lv_iconst (v := (0 : Int32)) hx hb dX5_sum_2 (by decide) ?_
  refine lv_istore_n (lv' := [(3, .int (0 : Int32)), (2, .int (0 : Int32)), (0, .ref a_this), (1, .int p1)]) hx hb dX5_sum_3 rfl hl (by decide) rfl (fun ls hl => ?_)
  exact w_X5_sum_b4 C0 hend  s_fuel p1 (0 : Int32) (0 : Int32) _ _ _ h hS (lv_sub hl [2, 3, 1, 0] rfl)

-- InnTurned$House.howManyIn()I
def wd_X1_howManyIn (cI cB cZ : ClassId) (a_this : Nat) (a_wets : Nat) (a_guests : Nat) (a_guests_cells : Nat) (a_sights : Nat) (a_remarks : Nat) (a_marks : Nat) (a_past : Nat)  (guests_cells : (Nat → Int32)) (guests_rows : Int32) (host : Int32) (rooms : Int32) (night : Int32) (wheels : Int32) (turned : Int32) : va_W := [(a_this, .inr (0, [.ref a_wets, .ref a_guests, .ref a_sights, .ref a_remarks, .ref a_marks, .ref a_past, .int host, .int rooms, .int night, .int wheels, .int turned])), (a_guests, .inr (3, [.int 4, .int 7, .ref a_guests_cells, .int guests_rows])), (a_guests_cells, .inl (cI, 28, .inl guests_cells))]
abbrev rm_X1_howManyIn : Room := { frames := 2, cells := 0, slots := 0, locals := 45 }
set_option maxRecDepth 20000 in
theorem inX1_X1_howManyIn : ∀ w ∈ u_ws RX1 TX1 11, w ∈ wsX1_howManyIn := by decide +kernel
def f_X1_howManyIn  (guests_cells : (Nat → Int32)) (guests_rows : Int32)  : Option (Int32) := ((f_X5_sum 28 (4 : Int32) guests_cells guests_rows (3 : Int32)).bind fun q1 => some (q1))
set_option maxHeartbeats 4000000 in
set_option maxRecDepth 100000 in
theorem c_X1_howManyIn (l : Launch) (D : va_G) (cI cB cZ : ClassId) (a_this : Nat) (a_wets : Nat) (a_guests : Nat) (a_guests_cells : Nat) (a_sights : Nat) (a_remarks : Nat) (a_marks : Nat) (a_past : Nat) (guests_cells : (Nat → Int32)) (guests_rows : Int32) (host : Int32) (rooms : Int32) (night : Int32) (wheels : Int32) (turned : Int32) (rv : Int32) (sz : Nat) (hf : f_X1_howManyIn guests_cells guests_rows = some rv) : Met l yX1_howManyIn wsX1_howManyIn rm_X1_howManyIn (sPc D vwCl (s_tys cI cB cZ) [.ref a_this] (wd_X1_howManyIn cI cB cZ a_this a_wets a_guests a_guests_cells a_sights a_remarks a_marks a_past guests_cells guests_rows host rooms night wheels turned) sz) (sQi D vwCl (wd_X1_howManyIn cI cB cZ a_this a_wets a_guests a_guests_cells a_sights a_remarks a_marks a_past guests_cells guests_rows host rooms night wheels turned) (wd_X1_howManyIn cI cB cZ a_this a_wets a_guests a_guests_cells a_sights a_remarks a_marks a_past guests_cells guests_rows host rooms night wheels turned) sz rv) 0 0 (va_A (wd_X1_howManyIn cI cB cZ a_this a_wets a_guests a_guests_cells a_sights a_remarks a_marks a_past guests_cells guests_rows host rooms night wheels turned) sz) := by
  refine s_enter_n (cc := cX1_howManyIn) (nL := 1) (r := rv) (by decide) rfl (Nat.le_of_ble_eq_true rfl) ?_
  intro p e s m args below meth c A Q C0 hend ls hl hS
  have h := hf
  clear hf
  replace hl : lv_has ls 1 [(0, .ref a_this)] := hl
  unfold f_X1_howManyIn at h
  obtain ⟨hx, hb, hml, hown, hts, hK, hA⟩ := id C0
  have inX1 : ∀ w ∈ u_ws RX1 TX1 11, w ∈ wsX1_howManyIn := inX1_X1_howManyIn
  refine lv_aload_n hx hb dX1_howManyIn_0 rfl (lv_at hl 0 rfl) ?_
  refine s_get (C := RX1) (T := TX1) (N := 11) hx hb hts inX1 hown hK hS 0 rfl rfl 1 (by decide) (hts (.fieldLink RX1 20 "InnTurned$House" "guests" "LInnTurned$Table;") (List.mem_of_getElem? (i := 1) rfl)) rfl rfl dX1_howManyIn_1 ?_
  refine lv_iconst (v := (3 : Int32)) hx hb dX1_howManyIn_4 (by decide) ?_
  obtain ⟨q1, hq1, h⟩ := s_bind h
  refine u_calliV (r := q1) (As := [.int (3 : Int32)]) (rest := []) (wc := (wd_X5_sum cI cB cZ a_guests a_guests_cells 28 (4 : Int32) (7 : Int32) guests_cells guests_rows)) hx hb hml hown hts hK hA hl hS (c_X5_sum l D cI cB cZ a_guests a_guests_cells 28 (4 : Int32) (7 : Int32) guests_cells guests_rows (3 : Int32) _ _ hq1) (cwV 1 hts gX1_howManyIn_X5_sum rfl rfl rfl (by decide +kernel) ⟨Nat.le_of_ble_eq_true rfl, Nat.le_of_ble_eq_true rfl⟩) 1 rfl rfl [1, 2] rfl rfl rfl rfl (Nat.le_of_ble_eq_true rfl) dX1_howManyIn_5 (fun H locs hS => ?_)
  obtain rfl := Option.some.inj h
  exact hend _ _ _ _ dX1_howManyIn_8 hS

-- InnTurned$House.hasRoom()Z
def wd_X1_hasRoom (cI cB cZ : ClassId) (a_this : Nat) (a_wets : Nat) (a_guests : Nat) (a_guests_cells : Nat) (a_sights : Nat) (a_remarks : Nat) (a_marks : Nat) (a_past : Nat)  (guests_cells : (Nat → Int32)) (guests_rows : Int32) (host : Int32) (rooms : Int32) (night : Int32) (wheels : Int32) (turned : Int32) : va_W := [(a_this, .inr (0, [.ref a_wets, .ref a_guests, .ref a_sights, .ref a_remarks, .ref a_marks, .ref a_past, .int host, .int rooms, .int night, .int wheels, .int turned])), (a_guests, .inr (3, [.int 4, .int 7, .ref a_guests_cells, .int guests_rows])), (a_guests_cells, .inl (cI, 28, .inl guests_cells))]
abbrev rm_X1_hasRoom : Room := { frames := 2, cells := 0, slots := 0, locals := 45 }
set_option maxRecDepth 20000 in
theorem inX1_X1_hasRoom : ∀ w ∈ u_ws RX1 TX1 11, w ∈ wsX1_hasRoom := by decide +kernel
def f_X1_hasRoom  (guests_cells : (Nat → Int32)) (guests_rows : Int32) (rooms : Int32)  : Option (Int32) := ((f_X5_sum 28 (4 : Int32) guests_cells guests_rows (3 : Int32)).bind fun q1 => (if rooms ≤ q1 then some ((0 : Int32)) else some ((1 : Int32))))
set_option maxHeartbeats 4000000 in
set_option maxRecDepth 100000 in
theorem c_X1_hasRoom (l : Launch) (D : va_G) (cI cB cZ : ClassId) (a_this : Nat) (a_wets : Nat) (a_guests : Nat) (a_guests_cells : Nat) (a_sights : Nat) (a_remarks : Nat) (a_marks : Nat) (a_past : Nat) (guests_cells : (Nat → Int32)) (guests_rows : Int32) (host : Int32) (rooms : Int32) (night : Int32) (wheels : Int32) (turned : Int32) (rv : Int32) (sz : Nat) (hf : f_X1_hasRoom guests_cells guests_rows rooms = some rv) : Met l yX1_hasRoom wsX1_hasRoom rm_X1_hasRoom (sPc D vwCl (s_tys cI cB cZ) [.ref a_this] (wd_X1_hasRoom cI cB cZ a_this a_wets a_guests a_guests_cells a_sights a_remarks a_marks a_past guests_cells guests_rows host rooms night wheels turned) sz) (sQi D vwCl (wd_X1_hasRoom cI cB cZ a_this a_wets a_guests a_guests_cells a_sights a_remarks a_marks a_past guests_cells guests_rows host rooms night wheels turned) (wd_X1_hasRoom cI cB cZ a_this a_wets a_guests a_guests_cells a_sights a_remarks a_marks a_past guests_cells guests_rows host rooms night wheels turned) sz rv) 0 0 (va_A (wd_X1_hasRoom cI cB cZ a_this a_wets a_guests a_guests_cells a_sights a_remarks a_marks a_past guests_cells guests_rows host rooms night wheels turned) sz) := by
  refine s_enter_z (cc := cX1_hasRoom) (nL := 1) (r := rv) (by decide) rfl (Nat.le_of_ble_eq_true rfl) ?_
  intro p e s m args below meth c A Q C0 hend ls hl hS
  have h := hf
  clear hf
  replace hl : lv_has ls 1 [(0, .ref a_this)] := hl
  unfold f_X1_hasRoom at h
  obtain ⟨hx, hb, hml, hown, hts, hK, hA⟩ := id C0
  have inX1 : ∀ w ∈ u_ws RX1 TX1 11, w ∈ wsX1_hasRoom := inX1_X1_hasRoom
  refine lv_aload_n hx hb dX1_hasRoom_0 rfl (lv_at hl 0 rfl) ?_
  refine s_get (C := RX1) (T := TX1) (N := 11) hx hb hts inX1 hown hK hS 0 rfl rfl 1 (by decide) (hts (.fieldLink RX1 20 "InnTurned$House" "guests" "LInnTurned$Table;") (List.mem_of_getElem? (i := 1) rfl)) rfl rfl dX1_hasRoom_1 ?_
  refine lv_iconst (v := (3 : Int32)) hx hb dX1_hasRoom_4 (by decide) ?_
  obtain ⟨q1, hq1, h⟩ := s_bind h
  refine u_calliV (r := q1) (As := [.int (3 : Int32)]) (rest := []) (wc := (wd_X5_sum cI cB cZ a_guests a_guests_cells 28 (4 : Int32) (7 : Int32) guests_cells guests_rows)) hx hb hml hown hts hK hA hl hS (c_X5_sum l D cI cB cZ a_guests a_guests_cells 28 (4 : Int32) (7 : Int32) guests_cells guests_rows (3 : Int32) _ _ hq1) (cwV 1 hts gX1_hasRoom_X5_sum rfl rfl rfl (by decide +kernel) ⟨Nat.le_of_ble_eq_true rfl, Nat.le_of_ble_eq_true rfl⟩) 1 rfl rfl [1, 2] rfl rfl rfl rfl (Nat.le_of_ble_eq_true rfl) dX1_hasRoom_5 (fun H locs hS => ?_)
  refine lv_aload_n hx hb dX1_hasRoom_8 rfl (lv_at hl 0 rfl) ?_
  refine s_get (C := RX1) (T := TX1) (N := 11) hx hb hts inX1 hown hK hS 0 rfl rfl 7 (by decide) (hts (.fieldLink RX1 36 "InnTurned$House" "rooms" "I") (List.mem_of_getElem? (i := 2) rfl)) rfl rfl dX1_hasRoom_9 ?_
  refine lv_icmp_ge (tgt := 19) hx hb dX1_hasRoom_12 (by decide) (fun c2 => ?_) (fun c2 => ?_)
  · replace h := s_yes c2 h
    refine lv_iconst (v := (0 : Int32)) hx hb dX1_hasRoom_19 (by decide) ?_
    obtain rfl := Option.some.inj h
    exact hend _ _ _ _ dX1_hasRoom_20 (Or.inl rfl) hS
  replace h := s_no c2 h
  refine lv_iconst (v := (1 : Int32)) hx hb dX1_hasRoom_15 (by decide) ?_
  refine lv_goto (tgt := 20) hx hb dX1_hasRoom_16 (by decide) ?_
  obtain rfl := Option.some.inj h
  exact hend _ _ _ _ dX1_hasRoom_20 (Or.inr rfl) hS

-- InnTurned$Kinds.likely(IIII)I
abbrev rm_X2_likely : Room := { frames := 0, cells := 0, slots := 0, locals := 0 }
def f_X2_likely    (p1 : Int32) (p2 : Int32) (p3 : Int32) (p4 : Int32) : Option (Int32) := (if p1 = (1 : Int32) then some (((((2 : Int32) * p2) + p3) + (4 : Int32))) else (if p1 = (2 : Int32) then some (((((2 : Int32) * p2) + p3) / (2 : Int32))) else (if p1 = (3 : Int32) then (if (p4 - p4 / (7 : Int32) * (7 : Int32)) = (4 : Int32) then some ((((((2 : Int32) * p2) + p3) + (4 : Int32)) + (6 : Int32))) else some (((((2 : Int32) * p2) + p3) + (4 : Int32)))) else (if p1 = (4 : Int32) then (if p2 = 0 then (if (((2 : Int32) * p2) + p3) ≤ (3 : Int32) then some ((((2 : Int32) * p2) + p3)) else some ((3 : Int32))) else some ((((2 : Int32) * p2) + p3))) else (if p1 = (5 : Int32) then (if p3 < (2 : Int32) then some (((((2 : Int32) * p2) + p3) / (2 : Int32))) else some ((((((2 : Int32) * p2) + p3) / (2 : Int32)) + (9 : Int32)))) else some ((((2 : Int32) * p2) + p3)))))))
set_option maxHeartbeats 4000000 in
set_option maxRecDepth 100000 in
theorem c_X2_likely (l : Launch) (D : va_G) (cI cB cZ : ClassId) (p1 : Int32) (p2 : Int32) (p3 : Int32) (p4 : Int32) (rv : Int32) (sz : Nat) (hf : f_X2_likely p1 p2 p3 p4 = some rv) : Met l yX2_likely wsX2_likely rm_X2_likely (sPc D vwCl (s_tys cI cB cZ) [.int p1, .int p2, .int p3, .int p4] ([] : va_W) sz) (sQi D vwCl ([] : va_W) ([] : va_W) sz rv) 0 0 (va_A ([] : va_W) sz) := by
  refine s_enter_n (cc := cX2_likely) (nL := 7) (r := rv) (by decide) rfl (Nat.le_of_ble_eq_true rfl) ?_
  intro p e s m args below meth c A Q C0 hend ls hl hS
  have h := hf
  clear hf
  replace hl : lv_has ls 7 [(0, .int p1), (1, .int p2), (2, .int p3), (3, .int p4)] := hl
  unfold f_X2_likely at h
  obtain ⟨hx, hb, hml, hown, hts, hK, hA⟩ := id C0
  refine lv_iconst (v := (2 : Int32)) hx hb dX2_likely_0 (by decide) ?_
  refine lv_iload_n hx hb dX2_likely_1 rfl (lv_at hl 1 rfl) ?_
  refine lv_imul hx hb dX2_likely_2 ?_
  refine lv_iload_n hx hb dX2_likely_3 rfl (lv_at hl 2 rfl) ?_
  refine lv_iadd hx hb dX2_likely_4 ?_
  refine lv_istore (lv' := [(4, .int (((2 : Int32) * p2) + p3)), (0, .int p1), (1, .int p2), (2, .int p3), (3, .int p4)]) hx hb dX2_likely_5 hl (by decide) rfl (fun ls hl => ?_)
  refine lv_iload hx hb dX2_likely_7 (lv_at hl 0 rfl) ?_
  refine lv_iconst (v := (4 : Int32)) hx hb dX2_likely_9 (by decide) ?_
  refine lv_iadd hx hb dX2_likely_10 ?_
  refine lv_istore (lv' := [(5, .int ((((2 : Int32) * p2) + p3) + (4 : Int32))), (4, .int (((2 : Int32) * p2) + p3)), (0, .int p1), (1, .int p2), (2, .int p3), (3, .int p4)]) hx hb dX2_likely_11 hl (by decide) rfl (fun ls hl => ?_)
  refine lv_iload hx hb dX2_likely_13 (lv_at hl 1 rfl) ?_
  refine lv_iconst (v := (2 : Int32)) hx hb dX2_likely_15 (by decide) ?_
  refine lv_idiv hx hb dX2_likely_16 (by decide) ?_
  refine lv_istore (lv' := [(6, .int ((((2 : Int32) * p2) + p3) / (2 : Int32))), (5, .int ((((2 : Int32) * p2) + p3) + (4 : Int32))), (4, .int (((2 : Int32) * p2) + p3)), (0, .int p1), (1, .int p2), (2, .int p3), (3, .int p4)]) hx hb dX2_likely_17 hl (by decide) rfl (fun ls hl => ?_)
  refine lv_iload_n hx hb dX2_likely_19 rfl (lv_at hl 3 rfl) ?_
  by_cases e1 : p1 = (1 : Int32)
  · refine s_sw hx hb (1 : Int32) e1 dX2_likely_20 (tgt := 56) (by decide) (by decide) rfl (by decide) ?_
    replace h := s_yes e1 h
    refine lv_iload hx hb dX2_likely_56 (lv_at hl 1 rfl) ?_
    obtain rfl := Option.some.inj h
    exact hend _ _ _ _ dX2_likely_58 hS
  replace h := s_no e1 h
  by_cases e2 : p1 = (2 : Int32)
  · refine s_sw hx hb (2 : Int32) e2 dX2_likely_20 (tgt := 59) (by decide) (by decide) rfl (by decide) ?_
    replace h := s_yes e2 h
    refine lv_iload hx hb dX2_likely_59 (lv_at hl 0 rfl) ?_
    obtain rfl := Option.some.inj h
    exact hend _ _ _ _ dX2_likely_61 hS
  replace h := s_no e2 h
  by_cases e3 : p1 = (3 : Int32)
  · refine s_sw hx hb (3 : Int32) e3 dX2_likely_20 (tgt := 62) (by decide) (by decide) rfl (by decide) ?_
    replace h := s_yes e3 h
    refine lv_iload_n hx hb dX2_likely_62 rfl (lv_at hl 6 rfl) ?_
    refine lv_bipush (v := (7 : Int32)) hx hb dX2_likely_63 (by decide) ?_
    refine lv_irem hx hb dX2_likely_65 (by decide) ?_
    refine lv_iconst (v := (4 : Int32)) hx hb dX2_likely_66 (by decide) ?_
    refine lv_icmp_ne (tgt := 78) hx hb dX2_likely_67 (by decide) (fun c4 => ?_) (fun c4 => ?_)
    · replace h := s_no c4 h
      refine lv_iload hx hb dX2_likely_78 (lv_at hl 1 rfl) ?_
      obtain rfl := Option.some.inj h
      exact hend _ _ _ _ dX2_likely_80 hS
    replace h := s_yes c4 h
    refine lv_iload hx hb dX2_likely_70 (lv_at hl 1 rfl) ?_
    refine lv_bipush (v := (6 : Int32)) hx hb dX2_likely_72 (by decide) ?_
    refine lv_iadd hx hb dX2_likely_74 ?_
    refine lv_goto (tgt := 80) hx hb dX2_likely_75 (by decide) ?_
    obtain rfl := Option.some.inj h
    exact hend _ _ _ _ dX2_likely_80 hS
  replace h := s_no e3 h
  by_cases e5 : p1 = (4 : Int32)
  · refine s_sw hx hb (4 : Int32) e5 dX2_likely_20 (tgt := 81) (by decide) (by decide) rfl (by decide) ?_
    replace h := s_yes e5 h
    refine lv_iload_n hx hb dX2_likely_81 rfl (lv_at hl 4 rfl) ?_
    refine lv_if_ne (tgt := 95) hx hb dX2_likely_82 (by decide) (fun c6 => ?_) (fun c6 => ?_)
    · replace h := s_no c6 h
      refine lv_iload hx hb dX2_likely_95 (lv_at hl 2 rfl) ?_
      obtain rfl := Option.some.inj h
      exact hend _ _ _ _ dX2_likely_97 hS
    replace h := s_yes c6 h
    refine lv_iload hx hb dX2_likely_85 (lv_at hl 2 rfl) ?_
    refine lv_iconst (v := (3 : Int32)) hx hb dX2_likely_87 (by decide) ?_
    refine lv_icmp_le (tgt := 95) hx hb dX2_likely_88 (by decide) (fun c7 => ?_) (fun c7 => ?_)
    · replace h := s_yes c7 h
      refine lv_iload hx hb dX2_likely_95 (lv_at hl 2 rfl) ?_
      obtain rfl := Option.some.inj h
      exact hend _ _ _ _ dX2_likely_97 hS
    replace h := s_no c7 h
    refine lv_iconst (v := (3 : Int32)) hx hb dX2_likely_91 (by decide) ?_
    refine lv_goto (tgt := 97) hx hb dX2_likely_92 (by decide) ?_
    obtain rfl := Option.some.inj h
    exact hend _ _ _ _ dX2_likely_97 hS
  replace h := s_no e5 h
  by_cases e8 : p1 = (5 : Int32)
  · refine s_sw hx hb (5 : Int32) e8 dX2_likely_20 (tgt := 98) (by decide) (by decide) rfl (by decide) ?_
    replace h := s_yes e8 h
    refine lv_iload_n hx hb dX2_likely_98 rfl (lv_at hl 5 rfl) ?_
    refine lv_iconst (v := (2 : Int32)) hx hb dX2_likely_99 (by decide) ?_
    refine lv_icmp_lt (tgt := 111) hx hb dX2_likely_100 (by decide) (fun c9 => ?_) (fun c9 => ?_)
    · replace h := s_yes c9 h
      refine lv_iload hx hb dX2_likely_111 (lv_at hl 0 rfl) ?_
      obtain rfl := Option.some.inj h
      exact hend _ _ _ _ dX2_likely_113 hS
    replace h := s_no c9 h
    refine lv_iload hx hb dX2_likely_103 (lv_at hl 0 rfl) ?_
    refine lv_bipush (v := (9 : Int32)) hx hb dX2_likely_105 (by decide) ?_
    refine lv_iadd hx hb dX2_likely_107 ?_
    refine lv_goto (tgt := 113) hx hb dX2_likely_108 (by decide) ?_
    obtain rfl := Option.some.inj h
    exact hend _ _ _ _ dX2_likely_113 hS
  replace h := s_no e8 h
  refine lv_tableOut (tgt := 114) hx hb dX2_likely_20 (by have ze1 := s_ne 1 (by exact e1) (by decide); have ze2 := s_ne 2 (by exact e2) (by decide); have ze3 := s_ne 3 (by exact e3) (by decide); have ze5 := s_ne 4 (by exact e5) (by decide); have ze8 := s_ne 5 (by exact e8) (by decide); omega) (by decide) ?_
  refine lv_iload hx hb dX2_likely_114 (lv_at hl 2 rfl) ?_
  obtain rfl := Option.some.inj h
  exact hend _ _ _ _ dX2_likely_116 hS

-- InnTurned$House.likely(IIII)I
def wd_X1_likely (cI cB cZ : ClassId) (a_this : Nat) (a_wets : Nat) (a_guests : Nat) (a_guests_cells : Nat) (a_sights : Nat) (a_remarks : Nat) (a_marks : Nat) (a_past : Nat)  (guests_cells : (Nat → Int32)) (guests_rows : Int32) (host : Int32) (rooms : Int32) (night : Int32) (wheels : Int32) (turned : Int32) : va_W := [(a_this, .inr (0, [.ref a_wets, .ref a_guests, .ref a_sights, .ref a_remarks, .ref a_marks, .ref a_past, .int host, .int rooms, .int night, .int wheels, .int turned])), (a_guests, .inr (3, [.int 4, .int 7, .ref a_guests_cells, .int guests_rows])), (a_guests_cells, .inl (cI, 28, .inl guests_cells))]
abbrev rm_X1_likely : Room := { frames := 1, cells := 0, slots := 0, locals := 26 }
set_option maxRecDepth 20000 in
theorem inX1_X1_likely : ∀ w ∈ u_ws RX1 TX1 11, w ∈ wsX1_likely := by decide +kernel
def f_X1_likely  (guests_cells : (Nat → Int32)) (guests_rows : Int32)  (p1 : Int32) (p2 : Int32) (p3 : Int32) (p4 : Int32) : Option (Int32) := ((f_X5_cell 28 (4 : Int32) guests_cells guests_rows p1 (0 : Int32)).bind fun q1 => ((f_X2_likely q1 p2 p3 p4).bind fun q2 => some (q2)))
set_option maxHeartbeats 4000000 in
set_option maxRecDepth 100000 in
theorem c_X1_likely (l : Launch) (D : va_G) (cI cB cZ : ClassId) (a_this : Nat) (a_wets : Nat) (a_guests : Nat) (a_guests_cells : Nat) (a_sights : Nat) (a_remarks : Nat) (a_marks : Nat) (a_past : Nat) (guests_cells : (Nat → Int32)) (guests_rows : Int32) (host : Int32) (rooms : Int32) (night : Int32) (wheels : Int32) (turned : Int32) (p1 : Int32) (p2 : Int32) (p3 : Int32) (p4 : Int32) (rv : Int32) (sz : Nat) (hf : f_X1_likely guests_cells guests_rows p1 p2 p3 p4 = some rv) : Met l yX1_likely wsX1_likely rm_X1_likely (sPc D vwCl (s_tys cI cB cZ) [.ref a_this, .int p1, .int p2, .int p3, .int p4] (wd_X1_likely cI cB cZ a_this a_wets a_guests a_guests_cells a_sights a_remarks a_marks a_past guests_cells guests_rows host rooms night wheels turned) sz) (sQi D vwCl (wd_X1_likely cI cB cZ a_this a_wets a_guests a_guests_cells a_sights a_remarks a_marks a_past guests_cells guests_rows host rooms night wheels turned) (wd_X1_likely cI cB cZ a_this a_wets a_guests a_guests_cells a_sights a_remarks a_marks a_past guests_cells guests_rows host rooms night wheels turned) sz rv) 0 0 (va_A (wd_X1_likely cI cB cZ a_this a_wets a_guests a_guests_cells a_sights a_remarks a_marks a_past guests_cells guests_rows host rooms night wheels turned) sz) := by
  refine s_enter_n (cc := cX1_likely) (nL := 5) (r := rv) (by decide) rfl (Nat.le_of_ble_eq_true rfl) ?_
  intro p e s m args below meth c A Q C0 hend ls hl hS
  have h := hf
  clear hf
  replace hl : lv_has ls 5 [(0, .ref a_this), (1, .int p1), (2, .int p2), (3, .int p3), (4, .int p4)] := hl
  unfold f_X1_likely at h
  obtain ⟨hx, hb, hml, hown, hts, hK, hA⟩ := id C0
  have inX1 : ∀ w ∈ u_ws RX1 TX1 11, w ∈ wsX1_likely := inX1_X1_likely
  refine lv_aload_n hx hb dX1_likely_0 rfl (lv_at hl 0 rfl) ?_
  refine s_get (C := RX1) (T := TX1) (N := 11) hx hb hts inX1 hown hK hS 0 rfl rfl 1 (by decide) (hts (.fieldLink RX1 20 "InnTurned$House" "guests" "LInnTurned$Table;") (List.mem_of_getElem? (i := 1) rfl)) rfl rfl dX1_likely_1 ?_
  refine lv_iload_n hx hb dX1_likely_4 rfl (lv_at hl 1 rfl) ?_
  refine lv_iconst (v := (0 : Int32)) hx hb dX1_likely_5 (by decide) ?_
  obtain ⟨q1, hq1, h⟩ := s_bind h
  refine u_calliV (r := q1) (As := [.int p1, .int (0 : Int32)]) (rest := []) (wc := (wd_X5_cell cI cB cZ a_guests a_guests_cells 28 (4 : Int32) (7 : Int32) guests_cells guests_rows)) hx hb hml hown hts hK hA hl hS (c_X5_cell l D cI cB cZ a_guests a_guests_cells 28 (4 : Int32) (7 : Int32) guests_cells guests_rows p1 (0 : Int32) _ _ hq1) (cwV 2 hts gX1_likely_X5_cell rfl rfl rfl (by decide +kernel) ⟨Nat.le_of_ble_eq_true rfl, Nat.le_of_ble_eq_true rfl⟩) 1 rfl rfl [1, 2] rfl rfl rfl rfl (Nat.le_of_ble_eq_true rfl) dX1_likely_6 (fun H locs hS => ?_)
  refine lv_iload_n hx hb dX1_likely_9 rfl (lv_at hl 2 rfl) ?_
  refine lv_iload_n hx hb dX1_likely_10 rfl (lv_at hl 3 rfl) ?_
  refine lv_iload hx hb dX1_likely_11 (lv_at hl 4 rfl) ?_
  obtain ⟨q2, hq2, h⟩ := s_bind h
  refine u_calliS (r := q2) (As := [.int q1, .int p2, .int p3, .int p4]) (rest := []) (wc := ([] : va_W)) hx hb hml hown hts hK hA hl hS (c_X2_likely l D cI cB cZ q1 p2 p3 p4 _ _ hq2) (va_cwS 4 hts gX1_likely_X2_likely rfl rfl rfl (by decide +kernel) ⟨Nat.le_of_ble_eq_true rfl, Nat.le_of_ble_eq_true rfl⟩) [] rfl rfl rfl rfl (Nat.le_of_ble_eq_true rfl) dX1_likely_13 (fun H locs hS => ?_)
  obtain rfl := Option.some.inj h
  exact hend _ _ _ _ dX1_likely_16 hS

-- InnTurned$House.likelyNow(I)I
def wd_X1_likelyNow (cI cB cZ : ClassId) (a_this : Nat) (a_wets : Nat) (a_guests : Nat) (a_guests_cells : Nat) (a_sights : Nat) (a_remarks : Nat) (a_marks : Nat) (a_past : Nat)  (guests_cells : (Nat → Int32)) (guests_rows : Int32) (host : Int32) (rooms : Int32) (night : Int32) (wheels : Int32) (turned : Int32) : va_W := [(a_this, .inr (0, [.ref a_wets, .ref a_guests, .ref a_sights, .ref a_remarks, .ref a_marks, .ref a_past, .int host, .int rooms, .int night, .int wheels, .int turned])), (a_guests, .inr (3, [.int 4, .int 7, .ref a_guests_cells, .int guests_rows])), (a_guests_cells, .inl (cI, 28, .inl guests_cells))]
abbrev rm_X1_likelyNow : Room := { frames := 1, cells := 0, slots := 0, locals := 26 }
set_option maxRecDepth 20000 in
theorem inX1_X1_likelyNow : ∀ w ∈ u_ws RX1 TX1 11, w ∈ wsX1_likelyNow := by decide +kernel
def f_X1_likelyNow  (guests_cells : (Nat → Int32)) (guests_rows : Int32) (night : Int32)  (p1 : Int32) : Option (Int32) := ((f_X5_cell 28 (4 : Int32) guests_cells guests_rows p1 (0 : Int32)).bind fun q1 => ((f_X5_cell 28 (4 : Int32) guests_cells guests_rows p1 (1 : Int32)).bind fun q2 => ((f_X5_cell 28 (4 : Int32) guests_cells guests_rows p1 (2 : Int32)).bind fun q3 => ((f_X2_likely q1 q2 q3 night).bind fun q4 => some (q4)))))
set_option maxHeartbeats 4000000 in
set_option maxRecDepth 100000 in
theorem c_X1_likelyNow (l : Launch) (D : va_G) (cI cB cZ : ClassId) (a_this : Nat) (a_wets : Nat) (a_guests : Nat) (a_guests_cells : Nat) (a_sights : Nat) (a_remarks : Nat) (a_marks : Nat) (a_past : Nat) (guests_cells : (Nat → Int32)) (guests_rows : Int32) (host : Int32) (rooms : Int32) (night : Int32) (wheels : Int32) (turned : Int32) (p1 : Int32) (rv : Int32) (sz : Nat) (hf : f_X1_likelyNow guests_cells guests_rows night p1 = some rv) : Met l yX1_likelyNow wsX1_likelyNow rm_X1_likelyNow (sPc D vwCl (s_tys cI cB cZ) [.ref a_this, .int p1] (wd_X1_likelyNow cI cB cZ a_this a_wets a_guests a_guests_cells a_sights a_remarks a_marks a_past guests_cells guests_rows host rooms night wheels turned) sz) (sQi D vwCl (wd_X1_likelyNow cI cB cZ a_this a_wets a_guests a_guests_cells a_sights a_remarks a_marks a_past guests_cells guests_rows host rooms night wheels turned) (wd_X1_likelyNow cI cB cZ a_this a_wets a_guests a_guests_cells a_sights a_remarks a_marks a_past guests_cells guests_rows host rooms night wheels turned) sz rv) 0 0 (va_A (wd_X1_likelyNow cI cB cZ a_this a_wets a_guests a_guests_cells a_sights a_remarks a_marks a_past guests_cells guests_rows host rooms night wheels turned) sz) := by
  refine s_enter_n (cc := cX1_likelyNow) (nL := 2) (r := rv) (by decide) rfl (Nat.le_of_ble_eq_true rfl) ?_
  intro p e s m args below meth c A Q C0 hend ls hl hS
  have h := hf
  clear hf
  replace hl : lv_has ls 2 [(0, .ref a_this), (1, .int p1)] := hl
  unfold f_X1_likelyNow at h
  obtain ⟨hx, hb, hml, hown, hts, hK, hA⟩ := id C0
  have inX1 : ∀ w ∈ u_ws RX1 TX1 11, w ∈ wsX1_likelyNow := inX1_X1_likelyNow
  refine lv_aload_n hx hb dX1_likelyNow_0 rfl (lv_at hl 0 rfl) ?_
  refine s_get (C := RX1) (T := TX1) (N := 11) hx hb hts inX1 hown hK hS 0 rfl rfl 1 (by decide) (hts (.fieldLink RX1 20 "InnTurned$House" "guests" "LInnTurned$Table;") (List.mem_of_getElem? (i := 1) rfl)) rfl rfl dX1_likelyNow_1 ?_
  refine lv_iload_n hx hb dX1_likelyNow_4 rfl (lv_at hl 1 rfl) ?_
  refine lv_iconst (v := (0 : Int32)) hx hb dX1_likelyNow_5 (by decide) ?_
  obtain ⟨q1, hq1, h⟩ := s_bind h
  refine u_calliV (r := q1) (As := [.int p1, .int (0 : Int32)]) (rest := []) (wc := (wd_X5_cell cI cB cZ a_guests a_guests_cells 28 (4 : Int32) (7 : Int32) guests_cells guests_rows)) hx hb hml hown hts hK hA hl hS (c_X5_cell l D cI cB cZ a_guests a_guests_cells 28 (4 : Int32) (7 : Int32) guests_cells guests_rows p1 (0 : Int32) _ _ hq1) (cwV 2 hts gX1_likelyNow_X5_cell rfl rfl rfl (by decide +kernel) ⟨Nat.le_of_ble_eq_true rfl, Nat.le_of_ble_eq_true rfl⟩) 1 rfl rfl [1, 2] rfl rfl rfl rfl (Nat.le_of_ble_eq_true rfl) dX1_likelyNow_6 (fun H locs hS => ?_)
  refine lv_aload_n hx hb dX1_likelyNow_9 rfl (lv_at hl 0 rfl) ?_
  refine s_get (C := RX1) (T := TX1) (N := 11) hx hb hts inX1 hown hK hS 0 rfl rfl 1 (by decide) (hts (.fieldLink RX1 20 "InnTurned$House" "guests" "LInnTurned$Table;") (List.mem_of_getElem? (i := 1) rfl)) rfl rfl dX1_likelyNow_10 ?_
  refine lv_iload_n hx hb dX1_likelyNow_13 rfl (lv_at hl 1 rfl) ?_
  refine lv_iconst (v := (1 : Int32)) hx hb dX1_likelyNow_14 (by decide) ?_
  obtain ⟨q2, hq2, h⟩ := s_bind h
  refine u_calliV (r := q2) (As := [.int p1, .int (1 : Int32)]) (rest := [.int q1]) (wc := (wd_X5_cell cI cB cZ a_guests a_guests_cells 28 (4 : Int32) (7 : Int32) guests_cells guests_rows)) hx hb hml hown hts hK hA hl hS (c_X5_cell l D cI cB cZ a_guests a_guests_cells 28 (4 : Int32) (7 : Int32) guests_cells guests_rows p1 (1 : Int32) _ _ hq2) (cwV 2 hts gX1_likelyNow_X5_cell rfl rfl rfl (by decide +kernel) ⟨Nat.le_of_ble_eq_true rfl, Nat.le_of_ble_eq_true rfl⟩) 1 rfl rfl [1, 2] rfl rfl rfl rfl (Nat.le_of_ble_eq_true rfl) dX1_likelyNow_15 (fun H locs hS => ?_)
  refine lv_aload_n hx hb dX1_likelyNow_18 rfl (lv_at hl 0 rfl) ?_
  refine s_get (C := RX1) (T := TX1) (N := 11) hx hb hts inX1 hown hK hS 0 rfl rfl 1 (by decide) (hts (.fieldLink RX1 20 "InnTurned$House" "guests" "LInnTurned$Table;") (List.mem_of_getElem? (i := 1) rfl)) rfl rfl dX1_likelyNow_19 ?_
  refine lv_iload_n hx hb dX1_likelyNow_22 rfl (lv_at hl 1 rfl) ?_
  refine lv_iconst (v := (2 : Int32)) hx hb dX1_likelyNow_23 (by decide) ?_
  obtain ⟨q3, hq3, h⟩ := s_bind h
  refine u_calliV (r := q3) (As := [.int p1, .int (2 : Int32)]) (rest := [.int q2, .int q1]) (wc := (wd_X5_cell cI cB cZ a_guests a_guests_cells 28 (4 : Int32) (7 : Int32) guests_cells guests_rows)) hx hb hml hown hts hK hA hl hS (c_X5_cell l D cI cB cZ a_guests a_guests_cells 28 (4 : Int32) (7 : Int32) guests_cells guests_rows p1 (2 : Int32) _ _ hq3) (cwV 2 hts gX1_likelyNow_X5_cell rfl rfl rfl (by decide +kernel) ⟨Nat.le_of_ble_eq_true rfl, Nat.le_of_ble_eq_true rfl⟩) 1 rfl rfl [1, 2] rfl rfl rfl rfl (Nat.le_of_ble_eq_true rfl) dX1_likelyNow_24 (fun H locs hS => ?_)
  refine lv_aload_n hx hb dX1_likelyNow_27 rfl (lv_at hl 0 rfl) ?_
  refine s_get (C := RX1) (T := TX1) (N := 11) hx hb hts inX1 hown hK hS 0 rfl rfl 8 (by decide) (hts (.fieldLink RX1 43 "InnTurned$House" "night" "I") (List.mem_of_getElem? (i := 2) rfl)) rfl rfl dX1_likelyNow_28 ?_
  obtain ⟨q4, hq4, h⟩ := s_bind h
  refine u_calliS (r := q4) (As := [.int q1, .int q2, .int q3, .int night]) (rest := []) (wc := ([] : va_W)) hx hb hml hown hts hK hA hl hS (c_X2_likely l D cI cB cZ q1 q2 q3 night _ _ hq4) (va_cwS 4 hts gX1_likelyNow_X2_likely rfl rfl rfl (by decide +kernel) ⟨Nat.le_of_ble_eq_true rfl, Nat.le_of_ble_eq_true rfl⟩) [] rfl rfl rfl rfl (Nat.le_of_ble_eq_true rfl) dX1_likelyNow_31 (fun H locs hS => ?_)
  obtain rfl := Option.some.inj h
  exact hend _ _ _ _ dX1_likelyNow_34 hS

-- InnTurned$Kinds.letsPass(III)I
abbrev rm_X2_letsPass : Room := { frames := 0, cells := 0, slots := 0, locals := 0 }
def f_X2_letsPass    (p1 : Int32) (p2 : Int32) (p3 : Int32) : Option (Int32) := (if p1 = (1 : Int32) then some ((((8 : Int32) - p3) - (3 : Int32))) else (if p1 = (2 : Int32) then some ((((8 : Int32) - p3) + p2)) else (if p1 = (3 : Int32) then some (((((8 : Int32) - p3) - (3 : Int32)) - p2)) else (if p1 = (4 : Int32) then (if p2 = (4 : Int32) then some ((99 : Int32)) else some ((((8 : Int32) - p3) + p2))) else (if p1 = (5 : Int32) then (if p3 = 0 then some (((2 : Int32) * (((8 : Int32) - p3) - (3 : Int32)))) else some ((((8 : Int32) - p3) - (3 : Int32)))) else some (((8 : Int32) - p3)))))))
set_option maxHeartbeats 4000000 in
set_option maxRecDepth 100000 in
theorem c_X2_letsPass (l : Launch) (D : va_G) (cI cB cZ : ClassId) (p1 : Int32) (p2 : Int32) (p3 : Int32) (rv : Int32) (sz : Nat) (hf : f_X2_letsPass p1 p2 p3 = some rv) : Met l yX2_letsPass wsX2_letsPass rm_X2_letsPass (sPc D vwCl (s_tys cI cB cZ) [.int p1, .int p2, .int p3] ([] : va_W) sz) (sQi D vwCl ([] : va_W) ([] : va_W) sz rv) 0 0 (va_A ([] : va_W) sz) := by
  refine s_enter_n (cc := cX2_letsPass) (nL := 6) (r := rv) (by decide) rfl (Nat.le_of_ble_eq_true rfl) ?_
  intro p e s m args below meth c A Q C0 hend ls hl hS
  have h := hf
  clear hf
  replace hl : lv_has ls 6 [(0, .int p1), (1, .int p2), (2, .int p3)] := hl
  unfold f_X2_letsPass at h
  obtain ⟨hx, hb, hml, hown, hts, hK, hA⟩ := id C0
  refine lv_bipush (v := (8 : Int32)) hx hb dX2_letsPass_0 (by decide) ?_
  refine lv_iload_n hx hb dX2_letsPass_2 rfl (lv_at hl 2 rfl) ?_
  refine lv_isub hx hb dX2_letsPass_3 ?_
  refine lv_istore_n (lv' := [(3, .int ((8 : Int32) - p3)), (0, .int p1), (1, .int p2), (2, .int p3)]) hx hb dX2_letsPass_4 rfl hl (by decide) rfl (fun ls hl => ?_)
  refine lv_iload_n hx hb dX2_letsPass_5 rfl (lv_at hl 0 rfl) ?_
  refine lv_iconst (v := (3 : Int32)) hx hb dX2_letsPass_6 (by decide) ?_
  refine lv_isub hx hb dX2_letsPass_7 ?_
  refine lv_istore (lv' := [(4, .int (((8 : Int32) - p3) - (3 : Int32))), (3, .int ((8 : Int32) - p3)), (0, .int p1), (1, .int p2), (2, .int p3)]) hx hb dX2_letsPass_8 hl (by decide) rfl (fun ls hl => ?_)
  refine lv_iload_n hx hb dX2_letsPass_10 rfl (lv_at hl 1 rfl) ?_
  refine lv_iload_n hx hb dX2_letsPass_11 rfl (lv_at hl 3 rfl) ?_
  refine lv_iadd hx hb dX2_letsPass_12 ?_
  refine lv_istore (lv' := [(5, .int (((8 : Int32) - p3) + p2)), (4, .int (((8 : Int32) - p3) - (3 : Int32))), (3, .int ((8 : Int32) - p3)), (0, .int p1), (1, .int p2), (2, .int p3)]) hx hb dX2_letsPass_13 hl (by decide) rfl (fun ls hl => ?_)
  refine lv_iload_n hx hb dX2_letsPass_15 rfl (lv_at hl 3 rfl) ?_
  by_cases e1 : p1 = (1 : Int32)
  · refine s_sw hx hb (1 : Int32) e1 dX2_letsPass_16 (tgt := 52) (by decide) (by decide) rfl (by decide) ?_
    replace h := s_yes e1 h
    refine lv_iload hx hb dX2_letsPass_52 (lv_at hl 1 rfl) ?_
    obtain rfl := Option.some.inj h
    exact hend _ _ _ _ dX2_letsPass_54 hS
  replace h := s_no e1 h
  by_cases e2 : p1 = (2 : Int32)
  · refine s_sw hx hb (2 : Int32) e2 dX2_letsPass_16 (tgt := 55) (by decide) (by decide) rfl (by decide) ?_
    replace h := s_yes e2 h
    refine lv_iload hx hb dX2_letsPass_55 (lv_at hl 0 rfl) ?_
    obtain rfl := Option.some.inj h
    exact hend _ _ _ _ dX2_letsPass_57 hS
  replace h := s_no e2 h
  by_cases e3 : p1 = (3 : Int32)
  · refine s_sw hx hb (3 : Int32) e3 dX2_letsPass_16 (tgt := 58) (by decide) (by decide) rfl (by decide) ?_
    replace h := s_yes e3 h
    refine lv_iload hx hb dX2_letsPass_58 (lv_at hl 1 rfl) ?_
    refine lv_iload_n hx hb dX2_letsPass_60 rfl (lv_at hl 4 rfl) ?_
    refine lv_isub hx hb dX2_letsPass_61 ?_
    obtain rfl := Option.some.inj h
    exact hend _ _ _ _ dX2_letsPass_62 hS
  replace h := s_no e3 h
  by_cases e4 : p1 = (4 : Int32)
  · refine s_sw hx hb (4 : Int32) e4 dX2_letsPass_16 (tgt := 63) (by decide) (by decide) rfl (by decide) ?_
    replace h := s_yes e4 h
    refine lv_iload_n hx hb dX2_letsPass_63 rfl (lv_at hl 4 rfl) ?_
    refine lv_iconst (v := (4 : Int32)) hx hb dX2_letsPass_64 (by decide) ?_
    refine lv_icmp_ne (tgt := 73) hx hb dX2_letsPass_65 (by decide) (fun c5 => ?_) (fun c5 => ?_)
    · replace h := s_no c5 h
      refine lv_iload hx hb dX2_letsPass_73 (lv_at hl 0 rfl) ?_
      obtain rfl := Option.some.inj h
      exact hend _ _ _ _ dX2_letsPass_75 hS
    replace h := s_yes c5 h
    refine lv_bipush (v := (99 : Int32)) hx hb dX2_letsPass_68 (by decide) ?_
    refine lv_goto (tgt := 75) hx hb dX2_letsPass_70 (by decide) ?_
    obtain rfl := Option.some.inj h
    exact hend _ _ _ _ dX2_letsPass_75 hS
  replace h := s_no e4 h
  by_cases e6 : p1 = (5 : Int32)
  · refine s_sw hx hb (5 : Int32) e6 dX2_letsPass_16 (tgt := 76) (by decide) (by decide) rfl (by decide) ?_
    replace h := s_yes e6 h
    refine lv_iload_n hx hb dX2_letsPass_76 rfl (lv_at hl 5 rfl) ?_
    refine lv_if_ne (tgt := 87) hx hb dX2_letsPass_77 (by decide) (fun c7 => ?_) (fun c7 => ?_)
    · replace h := s_no c7 h
      refine lv_iload hx hb dX2_letsPass_87 (lv_at hl 1 rfl) ?_
      obtain rfl := Option.some.inj h
      exact hend _ _ _ _ dX2_letsPass_89 hS
    replace h := s_yes c7 h
    refine lv_iconst (v := (2 : Int32)) hx hb dX2_letsPass_80 (by decide) ?_
    refine lv_iload hx hb dX2_letsPass_81 (lv_at hl 1 rfl) ?_
    refine lv_imul hx hb dX2_letsPass_83 ?_
    refine lv_goto (tgt := 89) hx hb dX2_letsPass_84 (by decide) ?_
    obtain rfl := Option.some.inj h
    exact hend _ _ _ _ dX2_letsPass_89 hS
  replace h := s_no e6 h
  refine lv_tableOut (tgt := 90) hx hb dX2_letsPass_16 (by have ze1 := s_ne 1 (by exact e1) (by decide); have ze2 := s_ne 2 (by exact e2) (by decide); have ze3 := s_ne 3 (by exact e3) (by decide); have ze4 := s_ne 4 (by exact e4) (by decide); have ze6 := s_ne 5 (by exact e6) (by decide); omega) (by decide) ?_
  refine lv_iload_n hx hb dX2_letsPass_90 rfl (lv_at hl 2 rfl) ?_
  obtain rfl := Option.some.inj h
  exact hend _ _ _ _ dX2_letsPass_91 hS

-- InnTurned$House.letsPass(II)I
def wd_X1_letsPass (cI cB cZ : ClassId) (a_this : Nat) (a_wets : Nat) (a_guests : Nat) (a_sights : Nat) (a_remarks : Nat) (a_marks : Nat) (a_past : Nat)  (host : Int32) (rooms : Int32) (night : Int32) (wheels : Int32) (turned : Int32) : va_W := [(a_this, .inr (0, [.ref a_wets, .ref a_guests, .ref a_sights, .ref a_remarks, .ref a_marks, .ref a_past, .int host, .int rooms, .int night, .int wheels, .int turned]))]
abbrev rm_X1_letsPass : Room := { frames := 1, cells := 0, slots := 0, locals := 25 }
set_option maxRecDepth 20000 in
theorem inX1_X1_letsPass : ∀ w ∈ u_ws RX1 TX1 11, w ∈ wsX1_letsPass := by decide +kernel
def f_X1_letsPass  (host : Int32)  (p1 : Int32) (p2 : Int32) : Option (Int32) := ((f_X2_letsPass host p1 p2).bind fun q1 => some (q1))
set_option maxHeartbeats 4000000 in
set_option maxRecDepth 100000 in
theorem c_X1_letsPass (l : Launch) (D : va_G) (cI cB cZ : ClassId) (a_this : Nat) (a_wets : Nat) (a_guests : Nat) (a_sights : Nat) (a_remarks : Nat) (a_marks : Nat) (a_past : Nat) (host : Int32) (rooms : Int32) (night : Int32) (wheels : Int32) (turned : Int32) (p1 : Int32) (p2 : Int32) (rv : Int32) (sz : Nat) (hf : f_X1_letsPass host p1 p2 = some rv) : Met l yX1_letsPass wsX1_letsPass rm_X1_letsPass (sPc D vwCl (s_tys cI cB cZ) [.ref a_this, .int p1, .int p2] (wd_X1_letsPass cI cB cZ a_this a_wets a_guests a_sights a_remarks a_marks a_past host rooms night wheels turned) sz) (sQi D vwCl (wd_X1_letsPass cI cB cZ a_this a_wets a_guests a_sights a_remarks a_marks a_past host rooms night wheels turned) (wd_X1_letsPass cI cB cZ a_this a_wets a_guests a_sights a_remarks a_marks a_past host rooms night wheels turned) sz rv) 0 0 (va_A (wd_X1_letsPass cI cB cZ a_this a_wets a_guests a_sights a_remarks a_marks a_past host rooms night wheels turned) sz) := by
  refine s_enter_n (cc := cX1_letsPass) (nL := 3) (r := rv) (by decide) rfl (Nat.le_of_ble_eq_true rfl) ?_
  intro p e s m args below meth c A Q C0 hend ls hl hS
  have h := hf
  clear hf
  replace hl : lv_has ls 3 [(0, .ref a_this), (1, .int p1), (2, .int p2)] := hl
  unfold f_X1_letsPass at h
  obtain ⟨hx, hb, hml, hown, hts, hK, hA⟩ := id C0
  have inX1 : ∀ w ∈ u_ws RX1 TX1 11, w ∈ wsX1_letsPass := inX1_X1_letsPass
  refine lv_aload_n hx hb dX1_letsPass_0 rfl (lv_at hl 0 rfl) ?_
  refine s_get (C := RX1) (T := TX1) (N := 11) hx hb hts inX1 hown hK hS 0 rfl rfl 6 (by decide) (hts (.fieldLink RX1 40 "InnTurned$House" "host" "I") (List.mem_of_getElem? (i := 1) rfl)) rfl rfl dX1_letsPass_1 ?_
  refine lv_iload_n hx hb dX1_letsPass_4 rfl (lv_at hl 1 rfl) ?_
  refine lv_iload_n hx hb dX1_letsPass_5 rfl (lv_at hl 2 rfl) ?_
  obtain ⟨q1, hq1, h⟩ := s_bind h
  refine u_calliS (r := q1) (As := [.int host, .int p1, .int p2]) (rest := []) (wc := ([] : va_W)) hx hb hml hown hts hK hA hl hS (c_X2_letsPass l D cI cB cZ host p1 p2 _ _ hq1) (va_cwS 3 hts gX1_letsPass_X2_letsPass rfl rfl rfl (by decide +kernel) ⟨Nat.le_of_ble_eq_true rfl, Nat.le_of_ble_eq_true rfl⟩) [] rfl rfl rfl rfl (Nat.le_of_ble_eq_true rfl) dX1_letsPass_6 (fun H locs hS => ?_)
  obtain rfl := Option.some.inj h
  exact hend _ _ _ _ dX1_letsPass_9 hS

-- InnTurned$House.letsNow()I
def wd_X1_letsNow (cI cB cZ : ClassId) (a_this : Nat) (a_wets : Nat) (a_guests : Nat) (a_sights : Nat) (a_remarks : Nat) (a_marks : Nat) (a_past : Nat)  (wets : (Nat → Int32)) (host : Int32) (rooms : Int32) (night : Int32) (wheels : Int32) (turned : Int32) : va_W := [(a_this, .inr (0, [.ref a_wets, .ref a_guests, .ref a_sights, .ref a_remarks, .ref a_marks, .ref a_past, .int host, .int rooms, .int night, .int wheels, .int turned])), (a_wets, .inl (cI, 6, .inl wets))]
abbrev rm_X1_letsNow : Room := { frames := 1, cells := 0, slots := 0, locals := 25 }
set_option maxRecDepth 20000 in
theorem inX1_X1_letsNow : ∀ w ∈ u_ws RX1 TX1 11, w ∈ wsX1_letsNow := by decide +kernel
def f_X1_letsNow  (wets : (Nat → Int32)) (host : Int32) (night : Int32) (wheels : Int32)  : Option (Int32) := ((f_X1_wetOf wets night).bind fun q1 => ((f_X2_letsPass host q1 wheels).bind fun q2 => some (q2)))
set_option maxHeartbeats 4000000 in
set_option maxRecDepth 100000 in
theorem c_X1_letsNow (l : Launch) (D : va_G) (cI cB cZ : ClassId) (a_this : Nat) (a_wets : Nat) (a_guests : Nat) (a_sights : Nat) (a_remarks : Nat) (a_marks : Nat) (a_past : Nat) (wets : (Nat → Int32)) (host : Int32) (rooms : Int32) (night : Int32) (wheels : Int32) (turned : Int32) (rv : Int32) (sz : Nat) (hf : f_X1_letsNow wets host night wheels = some rv) : Met l yX1_letsNow wsX1_letsNow rm_X1_letsNow (sPc D vwCl (s_tys cI cB cZ) [.ref a_this] (wd_X1_letsNow cI cB cZ a_this a_wets a_guests a_sights a_remarks a_marks a_past wets host rooms night wheels turned) sz) (sQi D vwCl (wd_X1_letsNow cI cB cZ a_this a_wets a_guests a_sights a_remarks a_marks a_past wets host rooms night wheels turned) (wd_X1_letsNow cI cB cZ a_this a_wets a_guests a_sights a_remarks a_marks a_past wets host rooms night wheels turned) sz rv) 0 0 (va_A (wd_X1_letsNow cI cB cZ a_this a_wets a_guests a_sights a_remarks a_marks a_past wets host rooms night wheels turned) sz) := by
  refine s_enter_n (cc := cX1_letsNow) (nL := 1) (r := rv) (by decide) rfl (Nat.le_of_ble_eq_true rfl) ?_
  intro p e s m args below meth c A Q C0 hend ls hl hS
  have h := hf
  clear hf
  replace hl : lv_has ls 1 [(0, .ref a_this)] := hl
  unfold f_X1_letsNow at h
  obtain ⟨hx, hb, hml, hown, hts, hK, hA⟩ := id C0
  have inX1 : ∀ w ∈ u_ws RX1 TX1 11, w ∈ wsX1_letsNow := inX1_X1_letsNow
  refine lv_aload_n hx hb dX1_letsNow_0 rfl (lv_at hl 0 rfl) ?_
  refine s_get (C := RX1) (T := TX1) (N := 11) hx hb hts inX1 hown hK hS 0 rfl rfl 6 (by decide) (hts (.fieldLink RX1 40 "InnTurned$House" "host" "I") (List.mem_of_getElem? (i := 1) rfl)) rfl rfl dX1_letsNow_1 ?_
  refine lv_aload_n hx hb dX1_letsNow_4 rfl (lv_at hl 0 rfl) ?_
  refine lv_aload_n hx hb dX1_letsNow_5 rfl (lv_at hl 0 rfl) ?_
  refine s_get (C := RX1) (T := TX1) (N := 11) hx hb hts inX1 hown hK hS 0 rfl rfl 8 (by decide) (hts (.fieldLink RX1 43 "InnTurned$House" "night" "I") (List.mem_of_getElem? (i := 2) rfl)) rfl rfl dX1_letsNow_6 ?_
  obtain ⟨q1, hq1, h⟩ := s_bind h
  refine u_calliV (r := q1) (As := [.int night]) (rest := [.int host]) (wc := (wd_X1_wetOf cI cB cZ a_this a_wets a_guests a_sights a_remarks a_marks a_past wets host rooms night wheels turned)) hx hb hml hown hts hK hA hl hS (c_X1_wetOf l D cI cB cZ a_this a_wets a_guests a_sights a_remarks a_marks a_past wets host rooms night wheels turned night _ _ hq1) (cwV 1 hts gX1_letsNow_X1_wetOf rfl rfl rfl (by decide +kernel) ⟨Nat.le_of_ble_eq_true rfl, Nat.le_of_ble_eq_true rfl⟩) 0 rfl rfl [0, 1] rfl rfl rfl rfl (Nat.le_of_ble_eq_true rfl) dX1_letsNow_9 (fun H locs hS => ?_)
  refine lv_aload_n hx hb dX1_letsNow_12 rfl (lv_at hl 0 rfl) ?_
  refine s_get (C := RX1) (T := TX1) (N := 11) hx hb hts inX1 hown hK hS 0 rfl rfl 9 (by decide) (hts (.fieldLink RX1 46 "InnTurned$House" "wheels" "I") (List.mem_of_getElem? (i := 3) rfl)) rfl rfl dX1_letsNow_13 ?_
  obtain ⟨q2, hq2, h⟩ := s_bind h
  refine u_calliS (r := q2) (As := [.int host, .int q1, .int wheels]) (rest := []) (wc := ([] : va_W)) hx hb hml hown hts hK hA hl hS (c_X2_letsPass l D cI cB cZ host q1 wheels _ _ hq2) (va_cwS 3 hts gX1_letsNow_X2_letsPass rfl rfl rfl (by decide +kernel) ⟨Nat.le_of_ble_eq_true rfl, Nat.le_of_ble_eq_true rfl⟩) [] rfl rfl rfl rfl (Nat.le_of_ble_eq_true rfl) dX1_letsNow_16 (fun H locs hS => ?_)
  obtain rfl := Option.some.inj h
  exact hend _ _ _ _ dX1_letsNow_19 hS

-- InnTurned$House.opensTo(II)Z
def wd_X1_opensTo (cI cB cZ : ClassId) (a_this : Nat) (a_wets : Nat) (a_guests : Nat) (a_guests_cells : Nat) (a_sights : Nat) (a_remarks : Nat) (a_marks : Nat) (a_past : Nat)  (guests_cells : (Nat → Int32)) (guests_rows : Int32) (host : Int32) (rooms : Int32) (night : Int32) (wheels : Int32) (turned : Int32) : va_W := [(a_this, .inr (0, [.ref a_wets, .ref a_guests, .ref a_sights, .ref a_remarks, .ref a_marks, .ref a_past, .int host, .int rooms, .int night, .int wheels, .int turned])), (a_guests, .inr (3, [.int 4, .int 7, .ref a_guests_cells, .int guests_rows])), (a_guests_cells, .inl (cI, 28, .inl guests_cells))]
abbrev rm_X1_opensTo : Room := { frames := 3, cells := 0, slots := 0, locals := 65 }
set_option maxRecDepth 20000 in
theorem inX1_X1_opensTo : ∀ w ∈ u_ws RX1 TX1 11, w ∈ wsX1_opensTo := by decide +kernel
def f_X1_opensTo  (guests_cells : (Nat → Int32)) (guests_rows : Int32) (host : Int32) (rooms : Int32) (night : Int32) (wheels : Int32)  (p1 : Int32) (p2 : Int32) : Option (Int32) := ((f_X1_hasRoom guests_cells guests_rows rooms).bind fun q1 => (if q1 = 0 then some ((0 : Int32)) else ((f_X1_likelyNow guests_cells guests_rows night p1).bind fun q3 => ((f_X2_letsPass host p2 wheels).bind fun q4 => (if q4 < q3 then some ((0 : Int32)) else some ((1 : Int32)))))))
set_option maxHeartbeats 4000000 in
set_option maxRecDepth 100000 in
theorem c_X1_opensTo (l : Launch) (D : va_G) (cI cB cZ : ClassId) (a_this : Nat) (a_wets : Nat) (a_guests : Nat) (a_guests_cells : Nat) (a_sights : Nat) (a_remarks : Nat) (a_marks : Nat) (a_past : Nat) (guests_cells : (Nat → Int32)) (guests_rows : Int32) (host : Int32) (rooms : Int32) (night : Int32) (wheels : Int32) (turned : Int32) (p1 : Int32) (p2 : Int32) (rv : Int32) (sz : Nat) (hf : f_X1_opensTo guests_cells guests_rows host rooms night wheels p1 p2 = some rv) : Met l yX1_opensTo wsX1_opensTo rm_X1_opensTo (sPc D vwCl (s_tys cI cB cZ) [.ref a_this, .int p1, .int p2] (wd_X1_opensTo cI cB cZ a_this a_wets a_guests a_guests_cells a_sights a_remarks a_marks a_past guests_cells guests_rows host rooms night wheels turned) sz) (sQi D vwCl (wd_X1_opensTo cI cB cZ a_this a_wets a_guests a_guests_cells a_sights a_remarks a_marks a_past guests_cells guests_rows host rooms night wheels turned) (wd_X1_opensTo cI cB cZ a_this a_wets a_guests a_guests_cells a_sights a_remarks a_marks a_past guests_cells guests_rows host rooms night wheels turned) sz rv) 0 0 (va_A (wd_X1_opensTo cI cB cZ a_this a_wets a_guests a_guests_cells a_sights a_remarks a_marks a_past guests_cells guests_rows host rooms night wheels turned) sz) := by
  refine s_enter_z (cc := cX1_opensTo) (nL := 3) (r := rv) (by decide) rfl (Nat.le_of_ble_eq_true rfl) ?_
  intro p e s m args below meth c A Q C0 hend ls hl hS
  have h := hf
  clear hf
  replace hl : lv_has ls 3 [(0, .ref a_this), (1, .int p1), (2, .int p2)] := hl
  unfold f_X1_opensTo at h
  obtain ⟨hx, hb, hml, hown, hts, hK, hA⟩ := id C0
  have inX1 : ∀ w ∈ u_ws RX1 TX1 11, w ∈ wsX1_opensTo := inX1_X1_opensTo
  refine lv_aload_n hx hb dX1_opensTo_0 rfl (lv_at hl 0 rfl) ?_
  obtain ⟨q1, hq1, h⟩ := s_bind h
  refine u_calliV (r := q1) (As := []) (rest := []) (wc := (wd_X1_hasRoom cI cB cZ a_this a_wets a_guests a_guests_cells a_sights a_remarks a_marks a_past guests_cells guests_rows host rooms night wheels turned)) hx hb hml hown hts hK hA hl hS (c_X1_hasRoom l D cI cB cZ a_this a_wets a_guests a_guests_cells a_sights a_remarks a_marks a_past guests_cells guests_rows host rooms night wheels turned _ _ hq1) (cwV 0 hts gX1_opensTo_X1_hasRoom rfl rfl rfl (by decide +kernel) ⟨Nat.le_of_ble_eq_true rfl, Nat.le_of_ble_eq_true rfl⟩) 0 rfl rfl [0, 1, 2] rfl rfl rfl rfl (Nat.le_of_ble_eq_true rfl) dX1_opensTo_1 (fun H locs hS => ?_)
  refine lv_if_eq (tgt := 31) hx hb dX1_opensTo_4 (by decide) (fun c2 => ?_) (fun c2 => ?_)
  · replace h := s_yes c2 h
    refine lv_iconst (v := (0 : Int32)) hx hb dX1_opensTo_31 (by decide) ?_
    obtain rfl := Option.some.inj h
    exact hend _ _ _ _ dX1_opensTo_32 (Or.inl rfl) hS
  replace h := s_no c2 h
  refine lv_aload_n hx hb dX1_opensTo_7 rfl (lv_at hl 0 rfl) ?_
  refine lv_iload_n hx hb dX1_opensTo_8 rfl (lv_at hl 1 rfl) ?_
  obtain ⟨q3, hq3, h⟩ := s_bind h
  refine u_calliV (r := q3) (As := [.int p1]) (rest := []) (wc := (wd_X1_likelyNow cI cB cZ a_this a_wets a_guests a_guests_cells a_sights a_remarks a_marks a_past guests_cells guests_rows host rooms night wheels turned)) hx hb hml hown hts hK hA hl hS (c_X1_likelyNow l D cI cB cZ a_this a_wets a_guests a_guests_cells a_sights a_remarks a_marks a_past guests_cells guests_rows host rooms night wheels turned p1 _ _ hq3) (cwV 1 hts gX1_opensTo_X1_likelyNow rfl rfl rfl (by decide +kernel) ⟨Nat.le_of_ble_eq_true rfl, Nat.le_of_ble_eq_true rfl⟩) 0 rfl rfl [0, 1, 2] rfl rfl rfl rfl (Nat.le_of_ble_eq_true rfl) dX1_opensTo_9 (fun H locs hS => ?_)
  refine lv_aload_n hx hb dX1_opensTo_12 rfl (lv_at hl 0 rfl) ?_
  refine s_get (C := RX1) (T := TX1) (N := 11) hx hb hts inX1 hown hK hS 0 rfl rfl 6 (by decide) (hts (.fieldLink RX1 40 "InnTurned$House" "host" "I") (List.mem_of_getElem? (i := 1) rfl)) rfl rfl dX1_opensTo_13 ?_
  refine lv_iload_n hx hb dX1_opensTo_16 rfl (lv_at hl 2 rfl) ?_
  refine lv_aload_n hx hb dX1_opensTo_17 rfl (lv_at hl 0 rfl) ?_
  refine s_get (C := RX1) (T := TX1) (N := 11) hx hb hts inX1 hown hK hS 0 rfl rfl 9 (by decide) (hts (.fieldLink RX1 46 "InnTurned$House" "wheels" "I") (List.mem_of_getElem? (i := 2) rfl)) rfl rfl dX1_opensTo_18 ?_
  obtain ⟨q4, hq4, h⟩ := s_bind h
  refine u_calliS (r := q4) (As := [.int host, .int p2, .int wheels]) (rest := [.int q3]) (wc := ([] : va_W)) hx hb hml hown hts hK hA hl hS (c_X2_letsPass l D cI cB cZ host p2 wheels _ _ hq4) (va_cwS 3 hts gX1_opensTo_X2_letsPass rfl rfl rfl (by decide +kernel) ⟨Nat.le_of_ble_eq_true rfl, Nat.le_of_ble_eq_true rfl⟩) [] rfl rfl rfl rfl (Nat.le_of_ble_eq_true rfl) dX1_opensTo_21 (fun H locs hS => ?_)
  refine lv_icmp_gt (tgt := 31) hx hb dX1_opensTo_24 (by decide) (fun c5 => ?_) (fun c5 => ?_)
  · replace h := s_yes c5 h
    refine lv_iconst (v := (0 : Int32)) hx hb dX1_opensTo_31 (by decide) ?_
    obtain rfl := Option.some.inj h
    exact hend _ _ _ _ dX1_opensTo_32 (Or.inl rfl) hS
  replace h := s_no c5 h
  refine lv_iconst (v := (1 : Int32)) hx hb dX1_opensTo_27 (by decide) ?_
  refine lv_goto (tgt := 32) hx hb dX1_opensTo_28 (by decide) ?_
  obtain rfl := Option.some.inj h
  exact hend _ _ _ _ dX1_opensTo_32 (Or.inr rfl) hS

