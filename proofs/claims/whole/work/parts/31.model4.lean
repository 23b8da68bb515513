-- InnTurnedModel.forget(I)I
def wd_X9_forget (cI cB cZ : ClassId) (a_this : Nat) (a_all : Nat) (a_kept : Nat) (a_isKept : Nat) (a_refused : Nat) (a_hand : Nat) (a_outs : Nat) (a_order0 : Nat) (a_bestOrder : Nat) (a_tells : Nat) (a_bytes : Nat) (a_anew : Nat) (a_values : Nat)  (all : (Nat → Int32)) (refused : (Nat → Int32)) (above : Int64) (below_ : Int64) (bytesLong : Int32) (tokenAt : Int32) (tokenLong : Int32) (token : Int32) (value : Int32) : va_W := [(a_this, .inr (6, [.ref a_all, .ref a_kept, .ref a_isKept, .ref a_refused, .long above, .long below_, .ref a_hand, .ref a_outs, .ref a_order0, .ref a_bestOrder, .ref a_tells, .ref a_bytes, .int bytesLong, .int tokenAt, .int tokenLong, .int token, .int value, .ref a_anew, .ref a_values])), (a_all, .inl (cI, 250, .inl all)), (a_refused, .inl (cI, 3, .inl refused))]
abbrev rm_X9_forget : Room := { frames := 1, cells := 0, slots := 0, locals := 25 }
set_option maxRecDepth 20000 in
theorem inX9_X9_forget : ∀ w ∈ u_ws RX9 TX9 19, w ∈ wsX9_forget := by decide +kernel
def f_X9_forget   (all : (Nat → Int32)) (refused : (Nat → Int32)) (p1 : Int32) : Option (Int32 × (Nat → Int32) × (Nat → Int32)) := ((f_X9_in (Int32.toInt64 p1) (0 : Int64) (2 : Int64)).bind fun q1 => (if q1 = 0 then ((f_X9_bad refused (-2 : Int32)).bind fun q5 => some (q5.1, all, q5.2)) else (if ¬ (((1 : Int32) + p1) < 0 ∨ 250 ≤ (Int32.toNatClampNeg ((1 : Int32) + p1))) then (if ¬ (((1 : Int32) + p1) < 0 ∨ 250 ≤ (Int32.toNatClampNeg ((1 : Int32) + p1))) then some ((all (Int32.toNatClampNeg ((1 : Int32) + p1))), (upd all (Int32.toNatClampNeg ((1 : Int32) + p1)) (0 : Int32)), refused) else none) else none)))
set_option maxHeartbeats 4000000 in
set_option maxRecDepth 100000 in
theorem c_X9_forget (l : Launch) (D : va_G) (cI cB cZ : ClassId) (a_this : Nat) (a_all : Nat) (a_kept : Nat) (a_isKept : Nat) (a_refused : Nat) (a_hand : Nat) (a_outs : Nat) (a_order0 : Nat) (a_bestOrder : Nat) (a_tells : Nat) (a_bytes : Nat) (a_anew : Nat) (a_values : Nat) (all : (Nat → Int32)) (refused : (Nat → Int32)) (above : Int64) (below_ : Int64) (bytesLong : Int32) (tokenAt : Int32) (tokenLong : Int32) (token : Int32) (value : Int32) (p1 : Int32) (rv : Int32 × (Nat → Int32) × (Nat → Int32)) (sz : Nat) (hf : f_X9_forget all refused p1 = some rv) : Met l yX9_forget wsX9_forget rm_X9_forget (sPc D vwCl (s_tys cI cB cZ) [.ref a_this, .int p1] (wd_X9_forget cI cB cZ a_this a_all a_kept a_isKept a_refused a_hand a_outs a_order0 a_bestOrder a_tells a_bytes a_anew a_values all refused above below_ bytesLong tokenAt tokenLong token value) sz) (sQi D vwCl (wd_X9_forget cI cB cZ a_this a_all a_kept a_isKept a_refused a_hand a_outs a_order0 a_bestOrder a_tells a_bytes a_anew a_values all refused above below_ bytesLong tokenAt tokenLong token value) (wd_X9_forget cI cB cZ a_this a_all a_kept a_isKept a_refused a_hand a_outs a_order0 a_bestOrder a_tells a_bytes a_anew a_values rv.2.1 rv.2.2 above below_ bytesLong tokenAt tokenLong token value) sz rv.1) 0 0 (va_A (wd_X9_forget cI cB cZ a_this a_all a_kept a_isKept a_refused a_hand a_outs a_order0 a_bestOrder a_tells a_bytes a_anew a_values all refused above below_ bytesLong tokenAt tokenLong token value) sz) := by
  refine s_enter_n (cc := cX9_forget) (nL := 3) (r := rv.1) (by decide) rfl (Nat.le_of_ble_eq_true rfl) ?_
  intro p e s m args below meth c A Q C0 hend ls hl hS
  have h := hf
  clear hf
  replace hl : lv_has ls 3 [(0, .ref a_this), (1, .int p1)] := hl
  unfold f_X9_forget at h
  obtain ⟨hx, hb, hml, hown, hts, hK, hA⟩ := id C0
  have inX9 : ∀ w ∈ u_ws RX9 TX9 19, w ∈ wsX9_forget := inX9_X9_forget
  refine lv_iload_n hx hb dX9_forget_0 rfl (lv_at hl 1 rfl) ?_
  refine lv_i2l (v := (Int32.toInt64 p1)) hx hb dX9_forget_1 rfl ?_
  refine lv_lconst (v := (0 : Int64)) hx hb dX9_forget_2 (by decide) ?_
  refine lv_ldc2 (v := (2 : Int64)) hx hb hown (hts (.constantLong RX9 167 (2)) (List.mem_of_getElem? (i := 1) rfl)) dX9_forget_3 ?_
  obtain ⟨q1, hq1, h⟩ := s_bind h
  refine u_calliS (r := q1) (As := [.long (Int32.toInt64 p1), .long (0 : Int64), .long (2 : Int64)]) (rest := []) (wc := ([] : va_W)) hx hb hml hown hts hK hA hl hS (c_X9_in l D cI cB cZ (Int32.toInt64 p1) (0 : Int64) (2 : Int64) _ _ hq1) (va_cwS 3 hts gX9_forget_X9_in rfl rfl rfl (by decide +kernel) ⟨Nat.le_of_ble_eq_true rfl, Nat.le_of_ble_eq_true rfl⟩) [] rfl rfl rfl rfl (Nat.le_of_ble_eq_true rfl) dX9_forget_6 (fun H locs hS => ?_)
  refine lv_if_ne (tgt := 19) hx hb dX9_forget_9 (by decide) (fun c2 => ?_) (fun c2 => ?_)
  · replace h := s_no c2 h
    refine lv_aload_n hx hb dX9_forget_19 rfl (lv_at hl 0 rfl) ?_
    refine s_get (C := RX9) (T := TX9) (N := 19) hx hb hts inX9 hown hK hS 0 rfl rfl 0 (by decide) (hts (.fieldLink RX9 7 "InnTurnedModel" "all" "[I") (List.mem_of_getElem? (i := 2) rfl)) rfl rfl dX9_forget_20 ?_
    refine lv_iconst (v := (1 : Int32)) hx hb dX9_forget_23 (by decide) ?_
    refine lv_iload_n hx hb dX9_forget_24 rfl (lv_at hl 1 rfl) ?_
    refine lv_iadd hx hb dX9_forget_25 ?_
    obtain ⟨g3, h⟩ := s_guard h
    refine s_iald hx hb hK hS 1 rfl rfl g3 dX9_forget_26 ?_
    refine lv_istore_n (lv' := [(2, .int (all (Int32.toNatClampNeg ((1 : Int32) + p1)))), (0, .ref a_this), (1, .int p1)]) hx hb dX9_forget_27 rfl hl (by decide) rfl (fun ls hl => ?_)
    refine lv_aload_n hx hb dX9_forget_28 rfl (lv_at hl 1 rfl) ?_
    refine s_get (C := RX9) (T := TX9) (N := 19) hx hb hts inX9 hown hK hS 0 rfl rfl 0 (by decide) (hts (.fieldLink RX9 7 "InnTurnedModel" "all" "[I") (List.mem_of_getElem? (i := 2) rfl)) rfl rfl dX9_forget_29 ?_
    refine lv_iconst (v := (1 : Int32)) hx hb dX9_forget_32 (by decide) ?_
    refine lv_iload_n hx hb dX9_forget_33 rfl (lv_at hl 2 rfl) ?_
    refine lv_iadd hx hb dX9_forget_34 ?_
    refine lv_iconst (v := (0 : Int32)) hx hb dX9_forget_35 (by decide) ?_
    obtain ⟨g4, h⟩ := s_guard h
    refine s_iast (ws' := (wd_X9_forget cI cB cZ a_this a_all a_kept a_isKept a_refused a_hand a_outs a_order0 a_bestOrder a_tells a_bytes a_anew a_values (upd all (Int32.toNatClampNeg ((1 : Int32) + p1)) (0 : Int32)) refused above below_ bytesLong tokenAt tokenLong token value)) hx hb hK hS 1 rfl rfl g4 rfl dX9_forget_36 (fun H locs hS => ?_)
    refine lv_iload_n hx hb dX9_forget_37 rfl (lv_at hl 0 rfl) ?_
    obtain rfl := Option.some.inj h
    exact hend _ _ _ _ dX9_forget_38 hS
  replace h := s_yes c2 h
  refine lv_aload_n hx hb dX9_forget_12 rfl (lv_at hl 0 rfl) ?_
  refine lv_bipush (v := (-2 : Int32)) hx hb dX9_forget_13 (by decide) ?_
  obtain ⟨q5, hq5, h⟩ := s_bind h
  refine r_calliV (r := q5.1) (As := [.int (-2 : Int32)]) (rest := []) (wc := (wd_X9_bad cI cB cZ a_this a_all a_kept a_isKept a_refused a_hand a_outs a_order0 a_bestOrder a_tells a_bytes a_anew a_values refused above below_ bytesLong tokenAt tokenLong token value)) (w1 := (wd_X9_bad cI cB cZ a_this a_all a_kept a_isKept a_refused a_hand a_outs a_order0 a_bestOrder a_tells a_bytes a_anew a_values q5.2 above below_ bytesLong tokenAt tokenLong token value)) (ws' := (wd_X9_forget cI cB cZ a_this a_all a_kept a_isKept a_refused a_hand a_outs a_order0 a_bestOrder a_tells a_bytes a_anew a_values all q5.2 above below_ bytesLong tokenAt tokenLong token value)) hx hb hml hown hts hK hA hl hS (c_X9_bad l D cI cB cZ a_this a_all a_kept a_isKept a_refused a_hand a_outs a_order0 a_bestOrder a_tells a_bytes a_anew a_values refused above below_ bytesLong tokenAt tokenLong token value (-2 : Int32) _ _ hq5) (cwV 1 hts gX9_forget_X9_bad rfl rfl rfl (by decide +kernel) ⟨Nat.le_of_ble_eq_true rfl, Nat.le_of_ble_eq_true rfl⟩) 0 rfl rfl [0, 2] rfl rfl rfl [.inr 0, .inl 1, .inr 1] rfl rfl rfl rfl (Nat.le_of_ble_eq_true rfl) dX9_forget_15 (fun H locs hS => ?_)
  obtain rfl := Option.some.inj h
  exact hend _ _ _ _ dX9_forget_18 hS

-- InnTurnedModel.kindsOfOne(I)I
def wd_X9_kindsOfOne (cI cB cZ : ClassId) (a_this : Nat) (a_all : Nat) (a_kept : Nat) (a_isKept : Nat) (a_refused : Nat) (a_hand : Nat) (a_outs : Nat) (a_order0 : Nat) (a_bestOrder : Nat) (a_tells : Nat) (a_bytes : Nat) (a_anew : Nat) (a_values : Nat)  (all : (Nat → Int32)) (above : Int64) (below_ : Int64) (bytesLong : Int32) (tokenAt : Int32) (tokenLong : Int32) (token : Int32) (value : Int32) : va_W := [(a_this, .inr (6, [.ref a_all, .ref a_kept, .ref a_isKept, .ref a_refused, .long above, .long below_, .ref a_hand, .ref a_outs, .ref a_order0, .ref a_bestOrder, .ref a_tells, .ref a_bytes, .int bytesLong, .int tokenAt, .int tokenLong, .int token, .int value, .ref a_anew, .ref a_values])), (a_all, .inl (cI, 250, .inl all))]
abbrev rm_X9_kindsOfOne : Room := { frames := 1, cells := 0, slots := 0, locals := 25 }
set_option maxRecDepth 20000 in
theorem inX9_X9_kindsOfOne : ∀ w ∈ u_ws RX9 TX9 19, w ∈ wsX9_kindsOfOne := by decide +kernel
def f_X9_kindsOfOne_b121 (k_b4 : Int32 → Int32 → Int32 → Option (Int32))  (all : (Nat → Int32))  (l1 : Int32) (l3 : Int32) (t0 : Int32) (t1 : Int32) : Option (Int32) := k_b4 l1 (t1 ||| t0) (l3 + (1 : Int32))
set_option maxHeartbeats 4000000 in
set_option maxRecDepth 100000 in
theorem w_X9_kindsOfOne_b121 {p : Program} {l : Launch} {e : Env} {s : State} {m : MethodId} {args : Array Value} {below : List Frame} {meth : Method} {c : Code} {A : Nat → Prop} {Q : State → Prop} {D : va_G} {cI cB cZ : ClassId} {a_this a_all a_kept a_isKept a_refused a_hand a_outs a_order0 a_bestOrder a_tells a_bytes a_anew a_values : Nat} {all : (Nat → Int32)} {above : Int64} {below_ : Int64} {bytesLong : Int32} {tokenAt : Int32} {tokenLong : Int32} {token : Int32} {value : Int32} (C0 : Cx p s m args c cX9_kindsOfOne 7 RX9 wsX9_kindsOfOne D (s_tys cI cB cZ) A) {rv : Int32} (hend : ∀ (pc : Nat) (H : Heap) (locs : List Loc) (ls : Array Slot), decode cX9_kindsOfOne pc = .ok (.ireturn, 1) → sS D vwCl A s.heap (wd_X9_kindsOfOne cI cB cZ a_this a_all a_kept a_isKept a_refused a_hand a_outs a_order0 a_bestOrder a_tells a_bytes a_anew a_values all above below_ bytesLong tokenAt tokenLong token value) H locs → W p l e rm_X9_kindsOfOne s m args below meth c H locs 0 0 Q (F0 m pc ls [.int rv])) (k_b4 : Int32 → Int32 → Int32 → Option (Int32)) (hk_b4 : ∀  (l1 : Int32) (l2 : Int32) (l3 : Int32) (H : Heap) (locs : List Loc) (ls : Array Slot), k_b4 l1 l2 l3 = some rv → sS D vwCl A s.heap (wd_X9_kindsOfOne cI cB cZ a_this a_all a_kept a_isKept a_refused a_hand a_outs a_order0 a_bestOrder a_tells a_bytes a_anew a_values all above below_ bytesLong tokenAt tokenLong token value) H locs → lv_has ls 7 [(0, .ref a_this), (1, .int l1), (2, .int l2), (3, .int l3)] → W p l e rm_X9_kindsOfOne s m args below meth c H locs 0 0 Q (F0 m 4 ls [])) : ∀  (l1 : Int32) (l3 : Int32) (t0 : Int32) (t1 : Int32) (H : Heap) (locs : List Loc) (ls : Array Slot), f_X9_kindsOfOne_b121 k_b4 all l1 l3 t0 t1 = some rv → sS D vwCl A s.heap (wd_X9_kindsOfOne cI cB cZ a_this a_all a_kept a_isKept a_refused a_hand a_outs a_order0 a_bestOrder a_tells a_bytes a_anew a_values all above below_ bytesLong tokenAt tokenLong token value) H locs → lv_has ls 7 [(0, .ref a_this), (1, .int l1), (3, .int l3)] → W p l e rm_X9_kindsOfOne s m args below meth c H locs 0 0 Q (F0 m 121 ls [.int t0, .int t1]) := by
  obtain ⟨hx, hb, hml, hown, hts, hK, hA⟩ := id C0
  have inX9 : ∀ w ∈ u_ws RX9 TX9 19, w ∈ wsX9_kindsOfOne := inX9_X9_kindsOfOne
  intro l1 l3 t0 t1 H locs ls h hS hl
  unfold f_X9_kindsOfOne_b121 at h
  refine lv_ior hx hb dX9_kindsOfOne_121 ?_
  refine lv_istore_n (lv' := [(2, .int (t1 ||| t0)), (0, .ref a_this), (1, .int l1), (3, .int l3)]) hx hb dX9_kindsOfOne_122 rfl hl (by decide) rfl (fun ls hl => ?_)
  refine lv_iinc (v := (l3 + (1 : Int32))) (lv' := [(3, .int (l3 + (1 : Int32))), (2, .int (t1 ||| t0)), (0, .ref a_this), (1, .int l1)]) hx hb dX9_kindsOfOne_123 hl (k := 3) rfl rfl (by decide) rfl (fun ls hl => ?_)
  refine lv_goto (tgt := 4) hx hb dX9_kindsOfOne_126 (by decide) ?_
  exact hk_b4 l1 (t1 ||| t0) (l3 + (1 : Int32)) _ _ _ h hS (lv_sub hl [2, 3, 1, 0] rfl)
def f_X9_kindsOfOne_b100 (k_b4 : Int32 → Int32 → Int32 → Option (Int32)) (k_b16 : Int32 → Int32 → Int32 → Int32 → Int32 → Option (Int32))  (all : (Nat → Int32))  (l1 : Int32) (l2 : Int32) (l3 : Int32) (l5 : Int32) (t0 : Int32) : Option (Int32) := k_b16 l1 l2 l3 t0 (l5 + (1 : Int32))
set_option maxHeartbeats 4000000 in
set_option maxRecDepth 100000 in
theorem w_X9_kindsOfOne_b100 {p : Program} {l : Launch} {e : Env} {s : State} {m : MethodId} {args : Array Value} {below : List Frame} {meth : Method} {c : Code} {A : Nat → Prop} {Q : State → Prop} {D : va_G} {cI cB cZ : ClassId} {a_this a_all a_kept a_isKept a_refused a_hand a_outs a_order0 a_bestOrder a_tells a_bytes a_anew a_values : Nat} {all : (Nat → Int32)} {above : Int64} {below_ : Int64} {bytesLong : Int32} {tokenAt : Int32} {tokenLong : Int32} {token : Int32} {value : Int32} (C0 : Cx p s m args c cX9_kindsOfOne 7 RX9 wsX9_kindsOfOne D (s_tys cI cB cZ) A) {rv : Int32} (hend : ∀ (pc : Nat) (H : Heap) (locs : List Loc) (ls : Array Slot), decode cX9_kindsOfOne pc = .ok (.ireturn, 1) → sS D vwCl A s.heap (wd_X9_kindsOfOne cI cB cZ a_this a_all a_kept a_isKept a_refused a_hand a_outs a_order0 a_bestOrder a_tells a_bytes a_anew a_values all above below_ bytesLong tokenAt tokenLong token value) H locs → W p l e rm_X9_kindsOfOne s m args below meth c H locs 0 0 Q (F0 m pc ls [.int rv])) (k_b4 : Int32 → Int32 → Int32 → Option (Int32)) (hk_b4 : ∀  (l1 : Int32) (l2 : Int32) (l3 : Int32) (H : Heap) (locs : List Loc) (ls : Array Slot), k_b4 l1 l2 l3 = some rv → sS D vwCl A s.heap (wd_X9_kindsOfOne cI cB cZ a_this a_all a_kept a_isKept a_refused a_hand a_outs a_order0 a_bestOrder a_tells a_bytes a_anew a_values all above below_ bytesLong tokenAt tokenLong token value) H locs → lv_has ls 7 [(0, .ref a_this), (1, .int l1), (2, .int l2), (3, .int l3)] → W p l e rm_X9_kindsOfOne s m args below meth c H locs 0 0 Q (F0 m 4 ls [])) (k_b16 : Int32 → Int32 → Int32 → Int32 → Int32 → Option (Int32)) (hk_b16 : ∀  (l1 : Int32) (l2 : Int32) (l3 : Int32) (l4 : Int32) (l5 : Int32) (H : Heap) (locs : List Loc) (ls : Array Slot), k_b16 l1 l2 l3 l4 l5 = some rv → sS D vwCl A s.heap (wd_X9_kindsOfOne cI cB cZ a_this a_all a_kept a_isKept a_refused a_hand a_outs a_order0 a_bestOrder a_tells a_bytes a_anew a_values all above below_ bytesLong tokenAt tokenLong token value) H locs → lv_has ls 7 [(0, .ref a_this), (1, .int l1), (2, .int l2), (3, .int l3), (4, .int l4), (5, .int l5)] → W p l e rm_X9_kindsOfOne s m args below meth c H locs 0 0 Q (F0 m 16 ls [])) : ∀  (l1 : Int32) (l2 : Int32) (l3 : Int32) (l5 : Int32) (t0 : Int32) (H : Heap) (locs : List Loc) (ls : Array Slot), f_X9_kindsOfOne_b100 k_b4 k_b16 all l1 l2 l3 l5 t0 = some rv → sS D vwCl A s.heap (wd_X9_kindsOfOne cI cB cZ a_this a_all a_kept a_isKept a_refused a_hand a_outs a_order0 a_bestOrder a_tells a_bytes a_anew a_values all above below_ bytesLong tokenAt tokenLong token value) H locs → lv_has ls 7 [(0, .ref a_this), (1, .int l1), (2, .int l2), (3, .int l3), (5, .int l5)] → W p l e rm_X9_kindsOfOne s m args below meth c H locs 0 0 Q (F0 m 100 ls [.int t0]) := by
  obtain ⟨hx, hb, hml, hown, hts, hK, hA⟩ := id C0
  have inX9 : ∀ w ∈ u_ws RX9 TX9 19, w ∈ wsX9_kindsOfOne := inX9_X9_kindsOfOne
  intro l1 l2 l3 l5 t0 H locs ls h hS hl
  unfold f_X9_kindsOfOne_b100 at h
  refine lv_istore (lv' := [(4, .int t0), (0, .ref a_this), (1, .int l1), (2, .int l2), (3, .int l3), (5, .int l5)]) hx hb dX9_kindsOfOne_100 hl (by decide) rfl (fun ls hl => ?_)
  refine lv_iinc (v := (l5 + (1 : Int32))) (lv' := [(5, .int (l5 + (1 : Int32))), (4, .int t0), (0, .ref a_this), (1, .int l1), (2, .int l2), (3, .int l3)]) hx hb dX9_kindsOfOne_102 hl (k := 5) rfl rfl (by decide) rfl (fun ls hl => ?_)
  refine lv_goto (tgt := 16) hx hb dX9_kindsOfOne_105 (by decide) ?_
  exact hk_b16 l1 l2 l3 t0 (l5 + (1 : Int32)) _ _ _ h hS (lv_sub hl [2, 3, 4, 5, 1, 0] rfl)
def f_X9_kindsOfOne_b99 (k_b4 : Int32 → Int32 → Int32 → Option (Int32)) (k_b16 : Int32 → Int32 → Int32 → Int32 → Int32 → Option (Int32))  (all : (Nat → Int32))  (l1 : Int32) (l2 : Int32) (l3 : Int32) (l5 : Int32) : Option (Int32) := f_X9_kindsOfOne_b100 k_b4 k_b16 all l1 l2 l3 l5 (0 : Int32)
set_option maxHeartbeats 4000000 in
set_option maxRecDepth 100000 in
theorem w_X9_kindsOfOne_b99 {p : Program} {l : Launch} {e : Env} {s : State} {m : MethodId} {args : Array Value} {below : List Frame} {meth : Method} {c : Code} {A : Nat → Prop} {Q : State → Prop} {D : va_G} {cI cB cZ : ClassId} {a_this a_all a_kept a_isKept a_refused a_hand a_outs a_order0 a_bestOrder a_tells a_bytes a_anew a_values : Nat} {all : (Nat → Int32)} {above : Int64} {below_ : Int64} {bytesLong : Int32} {tokenAt : Int32} {tokenLong : Int32} {token : Int32} {value : Int32} (C0 : Cx p s m args c cX9_kindsOfOne 7 RX9 wsX9_kindsOfOne D (s_tys cI cB cZ) A) {rv : Int32} (hend : ∀ (pc : Nat) (H : Heap) (locs : List Loc) (ls : Array Slot), decode cX9_kindsOfOne pc = .ok (.ireturn, 1) → sS D vwCl A s.heap (wd_X9_kindsOfOne cI cB cZ a_this a_all a_kept a_isKept a_refused a_hand a_outs a_order0 a_bestOrder a_tells a_bytes a_anew a_values all above below_ bytesLong tokenAt tokenLong token value) H locs → W p l e rm_X9_kindsOfOne s m args below meth c H locs 0 0 Q (F0 m pc ls [.int rv])) (k_b4 : Int32 → Int32 → Int32 → Option (Int32)) (hk_b4 : ∀  (l1 : Int32) (l2 : Int32) (l3 : Int32) (H : Heap) (locs : List Loc) (ls : Array Slot), k_b4 l1 l2 l3 = some rv → sS D vwCl A s.heap (wd_X9_kindsOfOne cI cB cZ a_this a_all a_kept a_isKept a_refused a_hand a_outs a_order0 a_bestOrder a_tells a_bytes a_anew a_values all above below_ bytesLong tokenAt tokenLong token value) H locs → lv_has ls 7 [(0, .ref a_this), (1, .int l1), (2, .int l2), (3, .int l3)] → W p l e rm_X9_kindsOfOne s m args below meth c H locs 0 0 Q (F0 m 4 ls [])) (k_b16 : Int32 → Int32 → Int32 → Int32 → Int32 → Option (Int32)) (hk_b16 : ∀  (l1 : Int32) (l2 : Int32) (l3 : Int32) (l4 : Int32) (l5 : Int32) (H : Heap) (locs : List Loc) (ls : Array Slot), k_b16 l1 l2 l3 l4 l5 = some rv → sS D vwCl A s.heap (wd_X9_kindsOfOne cI cB cZ a_this a_all a_kept a_isKept a_refused a_hand a_outs a_order0 a_bestOrder a_tells a_bytes a_anew a_values all above below_ bytesLong tokenAt tokenLong token value) H locs → lv_has ls 7 [(0, .ref a_this), (1, .int l1), (2, .int l2), (3, .int l3), (4, .int l4), (5, .int l5)] → W p l e rm_X9_kindsOfOne s m args below meth c H locs 0 0 Q (F0 m 16 ls [])) : ∀  (l1 : Int32) (l2 : Int32) (l3 : Int32) (l5 : Int32) (H : Heap) (locs : List Loc) (ls : Array Slot), f_X9_kindsOfOne_b99 k_b4 k_b16 all l1 l2 l3 l5 = some rv → sS D vwCl A s.heap (wd_X9_kindsOfOne cI cB cZ a_this a_all a_kept a_isKept a_refused a_hand a_outs a_order0 a_bestOrder a_tells a_bytes a_anew a_values all above below_ bytesLong tokenAt tokenLong token value) H locs → lv_has ls 7 [(0, .ref a_this), (1, .int l1), (2, .int l2), (3, .int l3), (5, .int l5)] → W p l e rm_X9_kindsOfOne s m args below meth c H locs 0 0 Q (F0 m 99 ls []) := by
  obtain ⟨hx, hb, hml, hown, hts, hK, hA⟩ := id C0
  have inX9 : ∀ w ∈ u_ws RX9 TX9 19, w ∈ wsX9_kindsOfOne := inX9_X9_kindsOfOne
  intro l1 l2 l3 l5 H locs ls h hS hl
  unfold f_X9_kindsOfOne_b99 at h
  refine lv_iconst (v := (0 : Int32)) hx hb dX9_kindsOfOne_99 (by decide) ?_
  exact w_X9_kindsOfOne_b100 C0 hend k_b4 hk_b4 k_b16 hk_b16 l1 l2 l3 l5 (0 : Int32) _ _ _ h hS (lv_sub hl [0, 1, 2, 3, 4] rfl)
def f_X9_kindsOfOne_b95 (k_b4 : Int32 → Int32 → Int32 → Option (Int32)) (k_b16 : Int32 → Int32 → Int32 → Int32 → Int32 → Option (Int32))  (all : (Nat → Int32))  (l1 : Int32) (l2 : Int32) (l3 : Int32) (l5 : Int32) : Option (Int32) := f_X9_kindsOfOne_b100 k_b4 k_b16 all l1 l2 l3 l5 (1 : Int32)
set_option maxHeartbeats 4000000 in
set_option maxRecDepth 100000 in
theorem w_X9_kindsOfOne_b95 {p : Program} {l : Launch} {e : Env} {s : State} {m : MethodId} {args : Array Value} {below : List Frame} {meth : Method} {c : Code} {A : Nat → Prop} {Q : State → Prop} {D : va_G} {cI cB cZ : ClassId} {a_this a_all a_kept a_isKept a_refused a_hand a_outs a_order0 a_bestOrder a_tells a_bytes a_anew a_values : Nat} {all : (Nat → Int32)} {above : Int64} {below_ : Int64} {bytesLong : Int32} {tokenAt : Int32} {tokenLong : Int32} {token : Int32} {value : Int32} (C0 : Cx p s m args c cX9_kindsOfOne 7 RX9 wsX9_kindsOfOne D (s_tys cI cB cZ) A) {rv : Int32} (hend : ∀ (pc : Nat) (H : Heap) (locs : List Loc) (ls : Array Slot), decode cX9_kindsOfOne pc = .ok (.ireturn, 1) → sS D vwCl A s.heap (wd_X9_kindsOfOne cI cB cZ a_this a_all a_kept a_isKept a_refused a_hand a_outs a_order0 a_bestOrder a_tells a_bytes a_anew a_values all above below_ bytesLong tokenAt tokenLong token value) H locs → W p l e rm_X9_kindsOfOne s m args below meth c H locs 0 0 Q (F0 m pc ls [.int rv])) (k_b4 : Int32 → Int32 → Int32 → Option (Int32)) (hk_b4 : ∀  (l1 : Int32) (l2 : Int32) (l3 : Int32) (H : Heap) (locs : List Loc) (ls : Array Slot), k_b4 l1 l2 l3 = some rv → sS D vwCl A s.heap (wd_X9_kindsOfOne cI cB cZ a_this a_all a_kept a_isKept a_refused a_hand a_outs a_order0 a_bestOrder a_tells a_bytes a_anew a_values all above below_ bytesLong tokenAt tokenLong token value) H locs → lv_has ls 7 [(0, .ref a_this), (1, .int l1), (2, .int l2), (3, .int l3)] → W p l e rm_X9_kindsOfOne s m args below meth c H locs 0 0 Q (F0 m 4 ls [])) (k_b16 : Int32 → Int32 → Int32 → Int32 → Int32 → Option (Int32)) (hk_b16 : ∀  (l1 : Int32) (l2 : Int32) (l3 : Int32) (l4 : Int32) (l5 : Int32) (H : Heap) (locs : List Loc) (ls : Array Slot), k_b16 l1 l2 l3 l4 l5 = some rv → sS D vwCl A s.heap (wd_X9_kindsOfOne cI cB cZ a_this a_all a_kept a_isKept a_refused a_hand a_outs a_order0 a_bestOrder a_tells a_bytes a_anew a_values all above below_ bytesLong tokenAt tokenLong token value) H locs → lv_has ls 7 [(0, .ref a_this), (1, .int l1), (2, .int l2), (3, .int l3), (4, .int l4), (5, .int l5)] → W p l e rm_X9_kindsOfOne s m args below meth c H locs 0 0 Q (F0 m 16 ls [])) : ∀  (l1 : Int32) (l2 : Int32) (l3 : Int32) (l5 : Int32) (H : Heap) (locs : List Loc) (ls : Array Slot), f_X9_kindsOfOne_b95 k_b4 k_b16 all l1 l2 l3 l5 = some rv → sS D vwCl A s.heap (wd_X9_kindsOfOne cI cB cZ a_this a_all a_kept a_isKept a_refused a_hand a_outs a_order0 a_bestOrder a_tells a_bytes a_anew a_values all above below_ bytesLong tokenAt tokenLong token value) H locs → lv_has ls 7 [(0, .ref a_this), (1, .int l1), (2, .int l2), (3, .int l3), (5, .int l5)] → W p l e rm_X9_kindsOfOne s m args below meth c H locs 0 0 Q (F0 m 95 ls []) := by
  obtain ⟨hx, hb, hml, hown, hts, hK, hA⟩ := id C0
  have inX9 : ∀ w ∈ u_ws RX9 TX9 19, w ∈ wsX9_kindsOfOne := inX9_X9_kindsOfOne
  intro l1 l2 l3 l5 H locs ls h hS hl
  unfold f_X9_kindsOfOne_b95 at h
  refine lv_iconst (v := (1 : Int32)) hx hb dX9_kindsOfOne_95 (by decide) ?_
  refine lv_goto (tgt := 100) hx hb dX9_kindsOfOne_96 (by decide) ?_
  exact w_X9_kindsOfOne_b100 C0 hend k_b4 hk_b4 k_b16 hk_b16 l1 l2 l3 l5 (1 : Int32) _ _ _ h hS (lv_sub hl [0, 1, 2, 3, 4] rfl)
def f_X9_kindsOfOne_b16 (k_b4 : Int32 → Int32 → Int32 → Option (Int32))  (all : (Nat → Int32)) : Nat → Int32 → Int32 → Int32 → Int32 → Int32 → Option (Int32)
  | 0, _, _, _, _, _ => none
  | fu + 1, l1, l2, l3, l4, l5 => (if (all (Int32.toNatClampNeg (2 : Int32))) ≤ l5 then (if l4 = 0 then f_X9_kindsOfOne_b121 k_b4 all l1 l3 (0 : Int32) l2 else f_X9_kindsOfOne_b121 k_b4 all l1 l3 ((1 : Int32) <<< (l3 &&& 31)) l2) else (if l4 = 0 then f_X9_kindsOfOne_b99 k_b4 (f_X9_kindsOfOne_b16 k_b4 all fu) all l1 l2 l3 l5 else (if ¬ (((58 : Int32) + ((5 : Int32) * l5)) < 0 ∨ 250 ≤ (Int32.toNatClampNeg ((58 : Int32) + ((5 : Int32) * l5)))) then (if (all (Int32.toNatClampNeg ((58 : Int32) + ((5 : Int32) * l5)))) = l1 then (if ¬ ((((58 : Int32) + ((5 : Int32) * l5)) + (1 : Int32)) < 0 ∨ 250 ≤ (Int32.toNatClampNeg (((58 : Int32) + ((5 : Int32) * l5)) + (1 : Int32)))) then (if ¬ ((((58 : Int32) + ((5 : Int32) * l5)) + (2 : Int32)) < 0 ∨ 250 ≤ (Int32.toNatClampNeg (((58 : Int32) + ((5 : Int32) * l5)) + (2 : Int32)))) then (if ¬ ((((58 : Int32) + ((5 : Int32) * l5)) + (3 : Int32)) < 0 ∨ 250 ≤ (Int32.toNatClampNeg (((58 : Int32) + ((5 : Int32) * l5)) + (3 : Int32)))) then ((f_X9_likelyAs l3 (all (Int32.toNatClampNeg (((58 : Int32) + ((5 : Int32) * l5)) + (1 : Int32)))) (all (Int32.toNatClampNeg (((58 : Int32) + ((5 : Int32) * l5)) + (2 : Int32)))) (all (Int32.toNatClampNeg (((58 : Int32) + ((5 : Int32) * l5)) + (3 : Int32))))).bind fun q9 => (if ¬ ((((58 : Int32) + ((5 : Int32) * l5)) + (4 : Int32)) < 0 ∨ 250 ≤ (Int32.toNatClampNeg (((58 : Int32) + ((5 : Int32) * l5)) + (4 : Int32)))) then (if q9 = (all (Int32.toNatClampNeg (((58 : Int32) + ((5 : Int32) * l5)) + (4 : Int32)))) then f_X9_kindsOfOne_b95 k_b4 (f_X9_kindsOfOne_b16 k_b4 all fu) all l1 l2 l3 l5 else f_X9_kindsOfOne_b99 k_b4 (f_X9_kindsOfOne_b16 k_b4 all fu) all l1 l2 l3 l5) else none)) else none) else none) else none) else f_X9_kindsOfOne_b95 k_b4 (f_X9_kindsOfOne_b16 k_b4 all fu) all l1 l2 l3 l5) else none)))
set_option maxHeartbeats 4000000 in
set_option maxRecDepth 100000 in
theorem w_X9_kindsOfOne_b16 {p : Program} {l : Launch} {e : Env} {s : State} {m : MethodId} {args : Array Value} {below : List Frame} {meth : Method} {c : Code} {A : Nat → Prop} {Q : State → Prop} {D : va_G} {cI cB cZ : ClassId} {a_this a_all a_kept a_isKept a_refused a_hand a_outs a_order0 a_bestOrder a_tells a_bytes a_anew a_values : Nat} {all : (Nat → Int32)} {above : Int64} {below_ : Int64} {bytesLong : Int32} {tokenAt : Int32} {tokenLong : Int32} {token : Int32} {value : Int32} (C0 : Cx p s m args c cX9_kindsOfOne 7 RX9 wsX9_kindsOfOne D (s_tys cI cB cZ) A) {rv : Int32} (hend : ∀ (pc : Nat) (H : Heap) (locs : List Loc) (ls : Array Slot), decode cX9_kindsOfOne pc = .ok (.ireturn, 1) → sS D vwCl A s.heap (wd_X9_kindsOfOne cI cB cZ a_this a_all a_kept a_isKept a_refused a_hand a_outs a_order0 a_bestOrder a_tells a_bytes a_anew a_values all above below_ bytesLong tokenAt tokenLong token value) H locs → W p l e rm_X9_kindsOfOne s m args below meth c H locs 0 0 Q (F0 m pc ls [.int rv])) (k_b4 : Int32 → Int32 → Int32 → Option (Int32)) (hk_b4 : ∀  (l1 : Int32) (l2 : Int32) (l3 : Int32) (H : Heap) (locs : List Loc) (ls : Array Slot), k_b4 l1 l2 l3 = some rv → sS D vwCl A s.heap (wd_X9_kindsOfOne cI cB cZ a_this a_all a_kept a_isKept a_refused a_hand a_outs a_order0 a_bestOrder a_tells a_bytes a_anew a_values all above below_ bytesLong tokenAt tokenLong token value) H locs → lv_has ls 7 [(0, .ref a_this), (1, .int l1), (2, .int l2), (3, .int l3)] → W p l e rm_X9_kindsOfOne s m args below meth c H locs 0 0 Q (F0 m 4 ls [])) : ∀ (fu : Nat)  (l1 : Int32) (l2 : Int32) (l3 : Int32) (l4 : Int32) (l5 : Int32) (H : Heap) (locs : List Loc) (ls : Array Slot), f_X9_kindsOfOne_b16 k_b4 all fu l1 l2 l3 l4 l5 = some rv → sS D vwCl A s.heap (wd_X9_kindsOfOne cI cB cZ a_this a_all a_kept a_isKept a_refused a_hand a_outs a_order0 a_bestOrder a_tells a_bytes a_anew a_values all above below_ bytesLong tokenAt tokenLong token value) H locs → lv_has ls 7 [(0, .ref a_this), (1, .int l1), (2, .int l2), (3, .int l3), (4, .int l4), (5, .int l5)] → W p l e rm_X9_kindsOfOne s m args below meth c H locs 0 0 Q (F0 m 16 ls []) := by
  obtain ⟨hx, hb, hml, hown, hts, hK, hA⟩ := id C0
  have inX9 : ∀ w ∈ u_ws RX9 TX9 19, w ∈ wsX9_kindsOfOne := inX9_X9_kindsOfOne
  intro fu
  induction fu with
  | zero => intro l1 l2 l3 l4 l5 H locs ls h; cases h
  | succ fu ih =>
    intro l1 l2 l3 l4 l5 H locs ls h hS hl
    rw [f_X9_kindsOfOne_b16] at h
    refine lv_iload hx hb dX9_kindsOfOne_16 (lv_at hl 5 rfl) ?_
    refine lv_aload_n hx hb dX9_kindsOfOne_18 rfl (lv_at hl 0 rfl) ?_
    refine s_get (C := RX9) (T := TX9) (N := 19) hx hb hts inX9 hown hK hS 0 rfl rfl 0 (by decide) (hts (.fieldLink RX9 7 "InnTurnedModel" "all" "[I") (List.mem_of_getElem? (i := 1) rfl)) rfl rfl dX9_kindsOfOne_19 ?_
    refine lv_iconst (v := (2 : Int32)) hx hb dX9_kindsOfOne_22 (by decide) ?_
    refine s_iald hx hb hK hS 1 rfl rfl (by decide) dX9_kindsOfOne_23 ?_
    refine lv_icmp_ge (tgt := 108) hx hb dX9_kindsOfOne_24 (by decide) (fun c1 => ?_) (fun c1 => ?_)
    · replace h := s_yes c1 h
      refine lv_iload_n hx hb dX9_kindsOfOne_108 rfl (lv_at hl 2 rfl) ?_
      refine lv_iload hx hb dX9_kindsOfOne_109 (lv_at hl 4 rfl) ?_
      refine lv_if_eq (tgt := 120) hx hb dX9_kindsOfOne_111 (by decide) (fun c2 => ?_) (fun c2 => ?_)
      · replace h := s_yes c2 h
        refine lv_iconst (v := (0 : Int32)) hx hb dX9_kindsOfOne_120 (by decide) ?_
        exact w_X9_kindsOfOne_b121 C0 hend k_b4 hk_b4 l1 l3 (0 : Int32) l2 _ _ _ h hS (lv_sub hl [0, 1, 3] rfl)
      replace h := s_no c2 h
      refine lv_iconst (v := (1 : Int32)) hx hb dX9_kindsOfOne_114 (by decide) ?_
      refine lv_iload_n hx hb dX9_kindsOfOne_115 rfl (lv_at hl 3 rfl) ?_
      refine lv_ishl hx hb dX9_kindsOfOne_116 ?_
      refine lv_goto (tgt := 121) hx hb dX9_kindsOfOne_117 (by decide) ?_
      exact w_X9_kindsOfOne_b121 C0 hend k_b4 hk_b4 l1 l3 ((1 : Int32) <<< (l3 &&& 31)) l2 _ _ _ h hS (lv_sub hl [0, 1, 3] rfl)
    replace h := s_no c1 h
    refine lv_bipush (v := (58 : Int32)) hx hb dX9_kindsOfOne_27 (by decide) ?_
    refine lv_iconst (v := (5 : Int32)) hx hb dX9_kindsOfOne_29 (by decide) ?_
    refine lv_iload hx hb dX9_kindsOfOne_30 (lv_at hl 5 rfl) ?_
    refine lv_imul hx hb dX9_kindsOfOne_32 ?_
    refine lv_iadd hx hb dX9_kindsOfOne_33 ?_
    refine lv_istore (lv' := [(6, .int ((58 : Int32) + ((5 : Int32) * l5))), (0, .ref a_this), (1, .int l1), (2, .int l2), (3, .int l3), (4, .int l4), (5, .int l5)]) hx hb dX9_kindsOfOne_34 hl (by decide) rfl (fun ls hl => ?_)
    refine lv_iload hx hb dX9_kindsOfOne_36 (lv_at hl 5 rfl) ?_
    refine lv_if_eq (tgt := 99) hx hb dX9_kindsOfOne_38 (by decide) (fun c3 => ?_) (fun c3 => ?_)
    · replace h := s_yes c3 h
      exact w_X9_kindsOfOne_b99 C0 hend k_b4 hk_b4 (f_X9_kindsOfOne_b16 k_b4 all fu) ih l1 l2 l3 l5 _ _ _ h hS (lv_sub hl [1, 2, 3, 4, 6] rfl)
    replace h := s_no c3 h
    refine lv_aload_n hx hb dX9_kindsOfOne_41 rfl (lv_at hl 1 rfl) ?_
    refine s_get (C := RX9) (T := TX9) (N := 19) hx hb hts inX9 hown hK hS 0 rfl rfl 0 (by decide) (hts (.fieldLink RX9 7 "InnTurnedModel" "all" "[I") (List.mem_of_getElem? (i := 1) rfl)) rfl rfl dX9_kindsOfOne_42 ?_
    refine lv_iload hx hb dX9_kindsOfOne_45 (lv_at hl 0 rfl) ?_
    obtain ⟨g4, h⟩ := s_guard h
    refine s_iald hx hb hK hS 1 rfl rfl g4 dX9_kindsOfOne_47 ?_
    refine lv_iload_n hx hb dX9_kindsOfOne_48 rfl (lv_at hl 2 rfl) ?_
    refine lv_icmp_ne (tgt := 95) hx hb dX9_kindsOfOne_49 (by decide) (fun c5 => ?_) (fun c5 => ?_)
    · replace h := s_no c5 h
      exact w_X9_kindsOfOne_b95 C0 hend k_b4 hk_b4 (f_X9_kindsOfOne_b16 k_b4 all fu) ih l1 l2 l3 l5 _ _ _ h hS (lv_sub hl [1, 2, 3, 4, 6] rfl)
    replace h := s_yes c5 h
    refine lv_iload_n hx hb dX9_kindsOfOne_52 rfl (lv_at hl 4 rfl) ?_
    refine lv_aload_n hx hb dX9_kindsOfOne_53 rfl (lv_at hl 1 rfl) ?_
    refine s_get (C := RX9) (T := TX9) (N := 19) hx hb hts inX9 hown hK hS 0 rfl rfl 0 (by decide) (hts (.fieldLink RX9 7 "InnTurnedModel" "all" "[I") (List.mem_of_getElem? (i := 1) rfl)) rfl rfl dX9_kindsOfOne_54 ?_
    refine lv_iload hx hb dX9_kindsOfOne_57 (lv_at hl 0 rfl) ?_
    refine lv_iconst (v := (1 : Int32)) hx hb dX9_kindsOfOne_59 (by decide) ?_
    refine lv_iadd hx hb dX9_kindsOfOne_60 ?_
    obtain ⟨g6, h⟩ := s_guard h
    refine s_iald hx hb hK hS 1 rfl rfl g6 dX9_kindsOfOne_61 ?_
    refine lv_aload_n hx hb dX9_kindsOfOne_62 rfl (lv_at hl 1 rfl) ?_
    refine s_get (C := RX9) (T := TX9) (N := 19) hx hb hts inX9 hown hK hS 0 rfl rfl 0 (by decide) (hts (.fieldLink RX9 7 "InnTurnedModel" "all" "[I") (List.mem_of_getElem? (i := 1) rfl)) rfl rfl dX9_kindsOfOne_63 ?_
    refine lv_iload hx hb dX9_kindsOfOne_66 (lv_at hl 0 rfl) ?_
    refine lv_iconst (v := (2 : Int32)) hx hb dX9_kindsOfOne_68 (by decide) ?_
    refine lv_iadd hx hb dX9_kindsOfOne_69 ?_
    obtain ⟨g7, h⟩ := s_guard h
    refine s_iald hx hb hK hS 1 rfl rfl g7 dX9_kindsOfOne_70 ?_
    refine lv_aload_n hx hb dX9_kindsOfOne_71 rfl (lv_at hl 1 rfl) ?_
    refine s_get (C := RX9) (T := TX9) (N := 19) hx hb hts inX9 hown hK hS 0 rfl rfl 0 (by decide) (hts (.fieldLink RX9 7 "InnTurnedModel" "all" "[I") (List.mem_of_getElem? (i := 1) rfl)) rfl rfl dX9_kindsOfOne_72 ?_
    refine lv_iload hx hb dX9_kindsOfOne_75 (lv_at hl 0 rfl) ?_
    refine lv_iconst (v := (3 : Int32)) hx hb dX9_kindsOfOne_77 (by decide) ?_
    refine lv_iadd hx hb dX9_kindsOfOne_78 ?_
    obtain ⟨g8, h⟩ := s_guard h
    refine s_iald hx hb hK hS 1 rfl rfl g8 dX9_kindsOfOne_79 ?_
    obtain ⟨q9, hq9, h⟩ := s_bind h
    refine u_calliS (r := q9) (As := [.int l3, .int (all (Int32.toNatClampNeg (((58 : Int32) + ((5 : Int32) * l5)) + (1 : Int32)))), .int (all (Int32.toNatClampNeg (((58 : Int32) + ((5 : Int32) * l5)) + (2 : Int32)))), .int (all (Int32.toNatClampNeg (((58 : Int32) + ((5 : Int32) * l5)) + (3 : Int32))))]) (rest := []) (wc := ([] : va_W)) hx hb hml hown hts hK hA hl hS (c_X9_likelyAs l D cI cB cZ l3 (all (Int32.toNatClampNeg (((58 : Int32) + ((5 : Int32) * l5)) + (1 : Int32)))) (all (Int32.toNatClampNeg (((58 : Int32) + ((5 : Int32) * l5)) + (2 : Int32)))) (all (Int32.toNatClampNeg (((58 : Int32) + ((5 : Int32) * l5)) + (3 : Int32)))) _ _ hq9) (va_cwS 4 hts gX9_kindsOfOne_X9_likelyAs rfl rfl rfl (by decide +kernel) ⟨Nat.le_of_ble_eq_true rfl, Nat.le_of_ble_eq_true rfl⟩) [] rfl rfl rfl rfl (Nat.le_of_ble_eq_true rfl) dX9_kindsOfOne_80 (fun H locs hS => ?_)
    refine lv_aload_n hx hb dX9_kindsOfOne_83 rfl (lv_at hl 1 rfl) ?_
    refine s_get (C := RX9) (T := TX9) (N := 19) hx hb hts inX9 hown hK hS 0 rfl rfl 0 (by decide) (hts (.fieldLink RX9 7 "InnTurnedModel" "all" "[I") (List.mem_of_getElem? (i := 1) rfl)) rfl rfl dX9_kindsOfOne_84 ?_
    refine lv_iload hx hb dX9_kindsOfOne_87 (lv_at hl 0 rfl) ?_
    refine lv_iconst (v := (4 : Int32)) hx hb dX9_kindsOfOne_89 (by decide) ?_
    refine lv_iadd hx hb dX9_kindsOfOne_90 ?_
    obtain ⟨g10, h⟩ := s_guard h
    refine s_iald hx hb hK hS 1 rfl rfl g10 dX9_kindsOfOne_91 ?_
    refine lv_icmp_ne (tgt := 99) hx hb dX9_kindsOfOne_92 (by decide) (fun c11 => ?_) (fun c11 => ?_)
    · replace h := s_no c11 h
      exact w_X9_kindsOfOne_b99 C0 hend k_b4 hk_b4 (f_X9_kindsOfOne_b16 k_b4 all fu) ih l1 l2 l3 l5 _ _ _ h hS (lv_sub hl [1, 2, 3, 4, 6] rfl)
    replace h := s_yes c11 h
    exact w_X9_kindsOfOne_b95 C0 hend k_b4 hk_b4 (f_X9_kindsOfOne_b16 k_b4 all fu) ih l1 l2 l3 l5 _ _ _ h hS (lv_sub hl [1, 2, 3, 4, 6] rfl)
def f_X9_kindsOfOne_b4  (all : (Nat → Int32)) : Nat → Int32 → Int32 → Int32 → Option (Int32)
  | 0, _, _, _ => none
  | fu + 1, l1, l2, l3 => (if (6 : Int32) ≤ l3 then some (l2) else f_X9_kindsOfOne_b16 (f_X9_kindsOfOne_b4 all fu) all s_fuel l1 l2 l3 (1 : Int32) (0 : Int32))
set_option maxHeartbeats 4000000 in
set_option maxRecDepth 100000 in
theorem w_X9_kindsOfOne_b4 {p : Program} {l : Launch} {e : Env} {s : State} {m : MethodId} {args : Array Value} {below : List Frame} {meth : Method} {c : Code} {A : Nat → Prop} {Q : State → Prop} {D : va_G} {cI cB cZ : ClassId} {a_this a_all a_kept a_isKept a_refused a_hand a_outs a_order0 a_bestOrder a_tells a_bytes a_anew a_values : Nat} {all : (Nat → Int32)} {above : Int64} {below_ : Int64} {bytesLong : Int32} {tokenAt : Int32} {tokenLong : Int32} {token : Int32} {value : Int32} (C0 : Cx p s m args c cX9_kindsOfOne 7 RX9 wsX9_kindsOfOne D (s_tys cI cB cZ) A) {rv : Int32} (hend : ∀ (pc : Nat) (H : Heap) (locs : List Loc) (ls : Array Slot), decode cX9_kindsOfOne pc = .ok (.ireturn, 1) → sS D vwCl A s.heap (wd_X9_kindsOfOne cI cB cZ a_this a_all a_kept a_isKept a_refused a_hand a_outs a_order0 a_bestOrder a_tells a_bytes a_anew a_values all above below_ bytesLong tokenAt tokenLong token value) H locs → W p l e rm_X9_kindsOfOne s m args below meth c H locs 0 0 Q (F0 m pc ls [.int rv])) : ∀ (fu : Nat)  (l1 : Int32) (l2 : Int32) (l3 : Int32) (H : Heap) (locs : List Loc) (ls : Array Slot), f_X9_kindsOfOne_b4 all fu l1 l2 l3 = some rv → sS D vwCl A s.heap (wd_X9_kindsOfOne cI cB cZ a_this a_all a_kept a_isKept a_refused a_hand a_outs a_order0 a_bestOrder a_tells a_bytes a_anew a_values all above below_ bytesLong tokenAt tokenLong token value) H locs → lv_has ls 7 [(0, .ref a_this), (1, .int l1), (2, .int l2), (3, .int l3)] → W p l e rm_X9_kindsOfOne s m args below meth c H locs 0 0 Q (F0 m 4 ls []) := by
  obtain ⟨hx, hb, hml, hown, hts, hK, hA⟩ := id C0
  have inX9 : ∀ w ∈ u_ws RX9 TX9 19, w ∈ wsX9_kindsOfOne := inX9_X9_kindsOfOne
  intro fu
  induction fu with
  | zero => intro l1 l2 l3 H locs ls h; cases h
  | succ fu ih =>
    intro l1 l2 l3 H locs ls h hS hl
    rw [f_X9_kindsOfOne_b4] at h
    refine lv_iload_n hx hb dX9_kindsOfOne_4 rfl (lv_at hl 3 rfl) ?_
    refine lv_bipush (v := (6 : Int32)) hx hb dX9_kindsOfOne_5 (by decide) ?_
    refine lv_icmp_ge (tgt := 129) hx hb dX9_kindsOfOne_7 (by decide) (fun c12 => ?_) (fun c12 => ?_)
    · replace h := s_yes c12 h
      refine lv_iload_n hx hb dX9_kindsOfOne_129 rfl (lv_at hl 2 rfl) ?_
      obtain rfl := Option.some.inj h
      exact hend _ _ _ _ dX9_kindsOfOne_130 hS
    replace h := s_no c12 h
    refine lv_iconst (v := (1 : Int32)) hx hb dX9_kindsOfOne_10 (by decide) ?_
    refine lv_istore (lv' := [(4, .int (1 : Int32)), (0, .ref a_this), (1, .int l1), (2, .int l2), (3, .int l3)]) hx hb dX9_kindsOfOne_11 hl (by decide) rfl (fun ls hl => ?_)
    refine lv_iconst (v := (0 : Int32)) hx hb dX9_kindsOfOne_13 (by decide) ?_
    refine lv_istore (lv' := [(5, .int (0 : Int32)), (4, .int (1 : Int32)), (0, .ref a_this), (1, .int l1), (2, .int l2), (3, .int l3)]) hx hb dX9_kindsOfOne_14 hl (by decide) rfl (fun ls hl => ?_)
    exact w_X9_kindsOfOne_b16 C0 hend (f_X9_kindsOfOne_b4 all fu) ih s_fuel l1 l2 l3 (1 : Int32) (0 : Int32) _ _ _ h hS (lv_sub hl [2, 3, 4, 5, 1, 0] rfl)
def f_X9_kindsOfOne  (all : (Nat → Int32))  (p1 : Int32) : Option (Int32) := f_X9_kindsOfOne_b4  all s_fuel p1 (0 : Int32) (0 : Int32)
set_option maxHeartbeats 4000000 in
set_option maxRecDepth 100000 in
theorem c_X9_kindsOfOne (l : Launch) (D : va_G) (cI cB cZ : ClassId) (a_this : Nat) (a_all : Nat) (a_kept : Nat) (a_isKept : Nat) (a_refused : Nat) (a_hand : Nat) (a_outs : Nat) (a_order0 : Nat) (a_bestOrder : Nat) (a_tells : Nat) (a_bytes : Nat) (a_anew : Nat) (a_values : Nat) (all : (Nat → Int32)) (above : Int64) (below_ : Int64) (bytesLong : Int32) (tokenAt : Int32) (tokenLong : Int32) (token : Int32) (value : Int32) (p1 : Int32) (rv : Int32) (sz : Nat) (hf : f_X9_kindsOfOne all p1 = some rv) : Met l yX9_kindsOfOne wsX9_kindsOfOne rm_X9_kindsOfOne (sPc D vwCl (s_tys cI cB cZ) [.ref a_this, .int p1] (wd_X9_kindsOfOne cI cB cZ a_this a_all a_kept a_isKept a_refused a_hand a_outs a_order0 a_bestOrder a_tells a_bytes a_anew a_values all above below_ bytesLong tokenAt tokenLong token value) sz) (sQi D vwCl (wd_X9_kindsOfOne cI cB cZ a_this a_all a_kept a_isKept a_refused a_hand a_outs a_order0 a_bestOrder a_tells a_bytes a_anew a_values all above below_ bytesLong tokenAt tokenLong token value) (wd_X9_kindsOfOne cI cB cZ a_this a_all a_kept a_isKept a_refused a_hand a_outs a_order0 a_bestOrder a_tells a_bytes a_anew a_values all above below_ bytesLong tokenAt tokenLong token value) sz rv) 0 0 (va_A (wd_X9_kindsOfOne cI cB cZ a_this a_all a_kept a_isKept a_refused a_hand a_outs a_order0 a_bestOrder a_tells a_bytes a_anew a_values all above below_ bytesLong tokenAt tokenLong token value) sz) := by
  refine s_enter_n (cc := cX9_kindsOfOne) (nL := 7) (r := rv) (by decide) rfl (Nat.le_of_ble_eq_true rfl) ?_
  intro p e s m args below meth c A Q C0 hend ls hl hS
  have h := hf
  clear hf
  replace hl : lv_has ls 7 [(0, .ref a_this), (1, .int p1)] := hl
  unfold f_X9_kindsOfOne at h
  obtain ⟨hx, hb, hml, hown, hts, hK, hA⟩ := id C0
  have inX9 : ∀ w ∈ u_ws RX9 TX9 19, w ∈ wsX9_kindsOfOne := inX9_X9_kindsOfOne
  refine lv_iconst (v := (0 : Int32)) hx hb dX9_kindsOfOne_0 (by decide) ?_
  refine lv_istore_n (lv' := [(2, .int (0 : Int32)), (0, .ref a_this), (1, .int p1)]) hx hb dX9_kindsOfOne_1 rfl hl (by decide) rfl (fun ls hl => ?_)
  refine lv_iconst (v := (0 : Int32)) hx hb dX9_kindsOfOne_2 (by decide) ?_
  refine lv_istore_n (lv' := [(3, .int (0 : Int32)), (2, .int (0 : Int32)), (0, .ref a_this), (1, .int p1)]) hx hb dX9_kindsOfOne_3 rfl hl (by decide) rfl (fun ls hl => ?_)
  exact w_X9_kindsOfOne_b4 C0 hend  s_fuel p1 (0 : Int32) (0 : Int32) _ _ _ h hS (lv_sub hl [2, 3, 1, 0] rfl)

-- InnTurnedModel.kindsOfLord()I
def wd_X9_kindsOfLord (cI cB cZ : ClassId) (a_this : Nat) (a_all : Nat) (a_kept : Nat) (a_isKept : Nat) (a_refused : Nat) (a_hand : Nat) (a_outs : Nat) (a_order0 : Nat) (a_bestOrder : Nat) (a_tells : Nat) (a_bytes : Nat) (a_anew : Nat) (a_values : Nat)  (all : (Nat → Int32)) (above : Int64) (below_ : Int64) (bytesLong : Int32) (tokenAt : Int32) (tokenLong : Int32) (token : Int32) (value : Int32) : va_W := [(a_this, .inr (6, [.ref a_all, .ref a_kept, .ref a_isKept, .ref a_refused, .long above, .long below_, .ref a_hand, .ref a_outs, .ref a_order0, .ref a_bestOrder, .ref a_tells, .ref a_bytes, .int bytesLong, .int tokenAt, .int tokenLong, .int token, .int value, .ref a_anew, .ref a_values])), (a_all, .inl (cI, 250, .inl all))]
abbrev rm_X9_kindsOfLord : Room := { frames := 1, cells := 0, slots := 0, locals := 24 }
set_option maxRecDepth 20000 in
theorem inX9_X9_kindsOfLord : ∀ w ∈ u_ws RX9 TX9 19, w ∈ wsX9_kindsOfLord := by decide +kernel
def f_X9_kindsOfLord_b95 (k_b4 : Int32 → Int32 → Option (Int32))  (all : (Nat → Int32))  (l2 : Int32) (t0 : Int32) (t1 : Int32) : Option (Int32) := k_b4 (t1 ||| t0) (l2 + (1 : Int32))
set_option maxHeartbeats 4000000 in
set_option maxRecDepth 100000 in
theorem w_X9_kindsOfLord_b95 {p : Program} {l : Launch} {e : Env} {s : State} {m : MethodId} {args : Array Value} {below : List Frame} {meth : Method} {c : Code} {A : Nat → Prop} {Q : State → Prop} {D : va_G} {cI cB cZ : ClassId} {a_this a_all a_kept a_isKept a_refused a_hand a_outs a_order0 a_bestOrder a_tells a_bytes a_anew a_values : Nat} {all : (Nat → Int32)} {above : Int64} {below_ : Int64} {bytesLong : Int32} {tokenAt : Int32} {tokenLong : Int32} {token : Int32} {value : Int32} (C0 : Cx p s m args c cX9_kindsOfLord 6 RX9 wsX9_kindsOfLord D (s_tys cI cB cZ) A) {rv : Int32} (hend : ∀ (pc : Nat) (H : Heap) (locs : List Loc) (ls : Array Slot), decode cX9_kindsOfLord pc = .ok (.ireturn, 1) → sS D vwCl A s.heap (wd_X9_kindsOfLord cI cB cZ a_this a_all a_kept a_isKept a_refused a_hand a_outs a_order0 a_bestOrder a_tells a_bytes a_anew a_values all above below_ bytesLong tokenAt tokenLong token value) H locs → W p l e rm_X9_kindsOfLord s m args below meth c H locs 0 0 Q (F0 m pc ls [.int rv])) (k_b4 : Int32 → Int32 → Option (Int32)) (hk_b4 : ∀  (l1 : Int32) (l2 : Int32) (H : Heap) (locs : List Loc) (ls : Array Slot), k_b4 l1 l2 = some rv → sS D vwCl A s.heap (wd_X9_kindsOfLord cI cB cZ a_this a_all a_kept a_isKept a_refused a_hand a_outs a_order0 a_bestOrder a_tells a_bytes a_anew a_values all above below_ bytesLong tokenAt tokenLong token value) H locs → lv_has ls 6 [(0, .ref a_this), (1, .int l1), (2, .int l2)] → W p l e rm_X9_kindsOfLord s m args below meth c H locs 0 0 Q (F0 m 4 ls [])) : ∀  (l2 : Int32) (t0 : Int32) (t1 : Int32) (H : Heap) (locs : List Loc) (ls : Array Slot), f_X9_kindsOfLord_b95 k_b4 all l2 t0 t1 = some rv → sS D vwCl A s.heap (wd_X9_kindsOfLord cI cB cZ a_this a_all a_kept a_isKept a_refused a_hand a_outs a_order0 a_bestOrder a_tells a_bytes a_anew a_values all above below_ bytesLong tokenAt tokenLong token value) H locs → lv_has ls 6 [(0, .ref a_this), (2, .int l2)] → W p l e rm_X9_kindsOfLord s m args below meth c H locs 0 0 Q (F0 m 95 ls [.int t0, .int t1]) := by
  obtain ⟨hx, hb, hml, hown, hts, hK, hA⟩ := id C0
  have inX9 : ∀ w ∈ u_ws RX9 TX9 19, w ∈ wsX9_kindsOfLord := inX9_X9_kindsOfLord
  intro l2 t0 t1 H locs ls h hS hl
  unfold f_X9_kindsOfLord_b95 at h
  refine lv_ior hx hb dX9_kindsOfLord_95 ?_
  refine lv_istore_n (lv' := [(1, .int (t1 ||| t0)), (0, .ref a_this), (2, .int l2)]) hx hb dX9_kindsOfLord_96 rfl hl (by decide) rfl (fun ls hl => ?_)
  refine lv_iinc (v := (l2 + (1 : Int32))) (lv' := [(2, .int (l2 + (1 : Int32))), (1, .int (t1 ||| t0)), (0, .ref a_this)]) hx hb dX9_kindsOfLord_97 hl (k := 2) rfl rfl (by decide) rfl (fun ls hl => ?_)
  refine lv_goto (tgt := 4) hx hb dX9_kindsOfLord_100 (by decide) ?_
  exact hk_b4 (t1 ||| t0) (l2 + (1 : Int32)) _ _ _ h hS (lv_sub hl [2, 1, 0] rfl)
def f_X9_kindsOfLord_b76 (k_b4 : Int32 → Int32 → Option (Int32)) (k_b15 : Int32 → Int32 → Int32 → Int32 → Option (Int32))  (all : (Nat → Int32))  (l1 : Int32) (l2 : Int32) (l4 : Int32) (t0 : Int32) : Option (Int32) := k_b15 l1 l2 t0 (l4 + (1 : Int32))
set_option maxHeartbeats 4000000 in
set_option maxRecDepth 100000 in
theorem w_X9_kindsOfLord_b76 {p : Program} {l : Launch} {e : Env} {s : State} {m : MethodId} {args : Array Value} {below : List Frame} {meth : Method} {c : Code} {A : Nat → Prop} {Q : State → Prop} {D : va_G} {cI cB cZ : ClassId} {a_this a_all a_kept a_isKept a_refused a_hand a_outs a_order0 a_bestOrder a_tells a_bytes a_anew a_values : Nat} {all : (Nat → Int32)} {above : Int64} {below_ : Int64} {bytesLong : Int32} {tokenAt : Int32} {tokenLong : Int32} {token : Int32} {value : Int32} (C0 : Cx p s m args c cX9_kindsOfLord 6 RX9 wsX9_kindsOfLord D (s_tys cI cB cZ) A) {rv : Int32} (hend : ∀ (pc : Nat) (H : Heap) (locs : List Loc) (ls : Array Slot), decode cX9_kindsOfLord pc = .ok (.ireturn, 1) → sS D vwCl A s.heap (wd_X9_kindsOfLord cI cB cZ a_this a_all a_kept a_isKept a_refused a_hand a_outs a_order0 a_bestOrder a_tells a_bytes a_anew a_values all above below_ bytesLong tokenAt tokenLong token value) H locs → W p l e rm_X9_kindsOfLord s m args below meth c H locs 0 0 Q (F0 m pc ls [.int rv])) (k_b4 : Int32 → Int32 → Option (Int32)) (hk_b4 : ∀  (l1 : Int32) (l2 : Int32) (H : Heap) (locs : List Loc) (ls : Array Slot), k_b4 l1 l2 = some rv → sS D vwCl A s.heap (wd_X9_kindsOfLord cI cB cZ a_this a_all a_kept a_isKept a_refused a_hand a_outs a_order0 a_bestOrder a_tells a_bytes a_anew a_values all above below_ bytesLong tokenAt tokenLong token value) H locs → lv_has ls 6 [(0, .ref a_this), (1, .int l1), (2, .int l2)] → W p l e rm_X9_kindsOfLord s m args below meth c H locs 0 0 Q (F0 m 4 ls [])) (k_b15 : Int32 → Int32 → Int32 → Int32 → Option (Int32)) (hk_b15 : ∀  (l1 : Int32) (l2 : Int32) (l3 : Int32) (l4 : Int32) (H : Heap) (locs : List Loc) (ls : Array Slot), k_b15 l1 l2 l3 l4 = some rv → sS D vwCl A s.heap (wd_X9_kindsOfLord cI cB cZ a_this a_all a_kept a_isKept a_refused a_hand a_outs a_order0 a_bestOrder a_tells a_bytes a_anew a_values all above below_ bytesLong tokenAt tokenLong token value) H locs → lv_has ls 6 [(0, .ref a_this), (1, .int l1), (2, .int l2), (3, .int l3), (4, .int l4)] → W p l e rm_X9_kindsOfLord s m args below meth c H locs 0 0 Q (F0 m 15 ls [])) : ∀  (l1 : Int32) (l2 : Int32) (l4 : Int32) (t0 : Int32) (H : Heap) (locs : List Loc) (ls : Array Slot), f_X9_kindsOfLord_b76 k_b4 k_b15 all l1 l2 l4 t0 = some rv → sS D vwCl A s.heap (wd_X9_kindsOfLord cI cB cZ a_this a_all a_kept a_isKept a_refused a_hand a_outs a_order0 a_bestOrder a_tells a_bytes a_anew a_values all above below_ bytesLong tokenAt tokenLong token value) H locs → lv_has ls 6 [(0, .ref a_this), (1, .int l1), (2, .int l2), (4, .int l4)] → W p l e rm_X9_kindsOfLord s m args below meth c H locs 0 0 Q (F0 m 76 ls [.int t0]) := by
  obtain ⟨hx, hb, hml, hown, hts, hK, hA⟩ := id C0
  have inX9 : ∀ w ∈ u_ws RX9 TX9 19, w ∈ wsX9_kindsOfLord := inX9_X9_kindsOfLord
  intro l1 l2 l4 t0 H locs ls h hS hl
  unfold f_X9_kindsOfLord_b76 at h
  refine lv_istore_n (lv' := [(3, .int t0), (0, .ref a_this), (1, .int l1), (2, .int l2), (4, .int l4)]) hx hb dX9_kindsOfLord_76 rfl hl (by decide) rfl (fun ls hl => ?_)
  refine lv_iinc (v := (l4 + (1 : Int32))) (lv' := [(4, .int (l4 + (1 : Int32))), (3, .int t0), (0, .ref a_this), (1, .int l1), (2, .int l2)]) hx hb dX9_kindsOfLord_77 hl (k := 4) rfl rfl (by decide) rfl (fun ls hl => ?_)
  refine lv_goto (tgt := 15) hx hb dX9_kindsOfLord_80 (by decide) ?_
  exact hk_b15 l1 l2 t0 (l4 + (1 : Int32)) _ _ _ h hS (lv_sub hl [2, 3, 4, 1, 0] rfl)
def f_X9_kindsOfLord_b75 (k_b4 : Int32 → Int32 → Option (Int32)) (k_b15 : Int32 → Int32 → Int32 → Int32 → Option (Int32))  (all : (Nat → Int32))  (l1 : Int32) (l2 : Int32) (l4 : Int32) : Option (Int32) := f_X9_kindsOfLord_b76 k_b4 k_b15 all l1 l2 l4 (0 : Int32)
set_option maxHeartbeats 4000000 in
set_option maxRecDepth 100000 in
theorem w_X9_kindsOfLord_b75 {p : Program} {l : Launch} {e : Env} {s : State} {m : MethodId} {args : Array Value} {below : List Frame} {meth : Method} {c : Code} {A : Nat → Prop} {Q : State → Prop} {D : va_G} {cI cB cZ : ClassId} {a_this a_all a_kept a_isKept a_refused a_hand a_outs a_order0 a_bestOrder a_tells a_bytes a_anew a_values : Nat} {all : (Nat → Int32)} {above : Int64} {below_ : Int64} {bytesLong : Int32} {tokenAt : Int32} {tokenLong : Int32} {token : Int32} {value : Int32} (C0 : Cx p s m args c cX9_kindsOfLord 6 RX9 wsX9_kindsOfLord D (s_tys cI cB cZ) A) {rv : Int32} (hend : ∀ (pc : Nat) (H : Heap) (locs : List Loc) (ls : Array Slot), decode cX9_kindsOfLord pc = .ok (.ireturn, 1) → sS D vwCl A s.heap (wd_X9_kindsOfLord cI cB cZ a_this a_all a_kept a_isKept a_refused a_hand a_outs a_order0 a_bestOrder a_tells a_bytes a_anew a_values all above below_ bytesLong tokenAt tokenLong token value) H locs → W p l e rm_X9_kindsOfLord s m args below meth c H locs 0 0 Q (F0 m pc ls [.int rv])) (k_b4 : Int32 → Int32 → Option (Int32)) (hk_b4 : ∀  (l1 : Int32) (l2 : Int32) (H : Heap) (locs : List Loc) (ls : Array Slot), k_b4 l1 l2 = some rv → sS D vwCl A s.heap (wd_X9_kindsOfLord cI cB cZ a_this a_all a_kept a_isKept a_refused a_hand a_outs a_order0 a_bestOrder a_tells a_bytes a_anew a_values all above below_ bytesLong tokenAt tokenLong token value) H locs → lv_has ls 6 [(0, .ref a_this), (1, .int l1), (2, .int l2)] → W p l e rm_X9_kindsOfLord s m args below meth c H locs 0 0 Q (F0 m 4 ls [])) (k_b15 : Int32 → Int32 → Int32 → Int32 → Option (Int32)) (hk_b15 : ∀  (l1 : Int32) (l2 : Int32) (l3 : Int32) (l4 : Int32) (H : Heap) (locs : List Loc) (ls : Array Slot), k_b15 l1 l2 l3 l4 = some rv → sS D vwCl A s.heap (wd_X9_kindsOfLord cI cB cZ a_this a_all a_kept a_isKept a_refused a_hand a_outs a_order0 a_bestOrder a_tells a_bytes a_anew a_values all above below_ bytesLong tokenAt tokenLong token value) H locs → lv_has ls 6 [(0, .ref a_this), (1, .int l1), (2, .int l2), (3, .int l3), (4, .int l4)] → W p l e rm_X9_kindsOfLord s m args below meth c H locs 0 0 Q (F0 m 15 ls [])) : ∀  (l1 : Int32) (l2 : Int32) (l4 : Int32) (H : Heap) (locs : List Loc) (ls : Array Slot), f_X9_kindsOfLord_b75 k_b4 k_b15 all l1 l2 l4 = some rv → sS D vwCl A s.heap (wd_X9_kindsOfLord cI cB cZ a_this a_all a_kept a_isKept a_refused a_hand a_outs a_order0 a_bestOrder a_tells a_bytes a_anew a_values all above below_ bytesLong tokenAt tokenLong token value) H locs → lv_has ls 6 [(0, .ref a_this), (1, .int l1), (2, .int l2), (4, .int l4)] → W p l e rm_X9_kindsOfLord s m args below meth c H locs 0 0 Q (F0 m 75 ls []) := by
  obtain ⟨hx, hb, hml, hown, hts, hK, hA⟩ := id C0
  have inX9 : ∀ w ∈ u_ws RX9 TX9 19, w ∈ wsX9_kindsOfLord := inX9_X9_kindsOfLord
  intro l1 l2 l4 H locs ls h hS hl
  unfold f_X9_kindsOfLord_b75 at h
  refine lv_iconst (v := (0 : Int32)) hx hb dX9_kindsOfLord_75 (by decide) ?_
  exact w_X9_kindsOfLord_b76 C0 hend k_b4 hk_b4 k_b15 hk_b15 l1 l2 l4 (0 : Int32) _ _ _ h hS (lv_sub hl [0, 1, 2, 3] rfl)
def f_X9_kindsOfLord_b15 (k_b4 : Int32 → Int32 → Option (Int32))  (all : (Nat → Int32)) : Nat → Int32 → Int32 → Int32 → Int32 → Option (Int32)
  | 0, _, _, _, _ => none
  | fu + 1, l1, l2, l3, l4 => (if (all (Int32.toNatClampNeg (3 : Int32))) ≤ l4 then (if l3 = 0 then f_X9_kindsOfLord_b95 k_b4 all l2 (0 : Int32) l1 else f_X9_kindsOfLord_b95 k_b4 all l2 ((1 : Int32) <<< (l2 &&& 31)) l1) else (if l3 = 0 then f_X9_kindsOfLord_b75 k_b4 (f_X9_kindsOfLord_b15 k_b4 all fu) all l1 l2 l4 else (if ¬ (((88 : Int32) + ((3 : Int32) * l4)) < 0 ∨ 250 ≤ (Int32.toNatClampNeg ((88 : Int32) + ((3 : Int32) * l4)))) then (if ¬ ((((88 : Int32) + ((3 : Int32) * l4)) + (1 : Int32)) < 0 ∨ 250 ≤ (Int32.toNatClampNeg (((88 : Int32) + ((3 : Int32) * l4)) + (1 : Int32)))) then ((f_X9_passesAs l2 (all (Int32.toNatClampNeg ((88 : Int32) + ((3 : Int32) * l4)))) (all (Int32.toNatClampNeg (((88 : Int32) + ((3 : Int32) * l4)) + (1 : Int32))))).bind fun q6 => (if ¬ ((((88 : Int32) + ((3 : Int32) * l4)) + (2 : Int32)) < 0 ∨ 250 ≤ (Int32.toNatClampNeg (((88 : Int32) + ((3 : Int32) * l4)) + (2 : Int32)))) then (if q6 = (all (Int32.toNatClampNeg (((88 : Int32) + ((3 : Int32) * l4)) + (2 : Int32)))) then f_X9_kindsOfLord_b76 k_b4 (f_X9_kindsOfLord_b15 k_b4 all fu) all l1 l2 l4 (1 : Int32) else f_X9_kindsOfLord_b75 k_b4 (f_X9_kindsOfLord_b15 k_b4 all fu) all l1 l2 l4) else none)) else none) else none)))
set_option maxHeartbeats 4000000 in
set_option maxRecDepth 100000 in
theorem w_X9_kindsOfLord_b15 {p : Program} {l : Launch} {e : Env} {s : State} {m : MethodId} {args : Array Value} {below : List Frame} {meth : Method} {c : Code} {A : Nat → Prop} {Q : State → Prop} {D : va_G} {cI cB cZ : ClassId} {a_this a_all a_kept a_isKept a_refused a_hand a_outs a_order0 a_bestOrder a_tells a_bytes a_anew a_values : Nat} {all : (Nat → Int32)} {above : Int64} {below_ : Int64} {bytesLong : Int32} {tokenAt : Int32} {tokenLong : Int32} {token : Int32} {value : Int32} (C0 : Cx p s m args c cX9_kindsOfLord 6 RX9 wsX9_kindsOfLord D (s_tys cI cB cZ) A) {rv : Int32} (hend : ∀ (pc : Nat) (H : Heap) (locs : List Loc) (ls : Array Slot), decode cX9_kindsOfLord pc = .ok (.ireturn, 1) → sS D vwCl A s.heap (wd_X9_kindsOfLord cI cB cZ a_this a_all a_kept a_isKept a_refused a_hand a_outs a_order0 a_bestOrder a_tells a_bytes a_anew a_values all above below_ bytesLong tokenAt tokenLong token value) H locs → W p l e rm_X9_kindsOfLord s m args below meth c H locs 0 0 Q (F0 m pc ls [.int rv])) (k_b4 : Int32 → Int32 → Option (Int32)) (hk_b4 : ∀  (l1 : Int32) (l2 : Int32) (H : Heap) (locs : List Loc) (ls : Array Slot), k_b4 l1 l2 = some rv → sS D vwCl A s.heap (wd_X9_kindsOfLord cI cB cZ a_this a_all a_kept a_isKept a_refused a_hand a_outs a_order0 a_bestOrder a_tells a_bytes a_anew a_values all above below_ bytesLong tokenAt tokenLong token value) H locs → lv_has ls 6 [(0, .ref a_this), (1, .int l1), (2, .int l2)] → W p l e rm_X9_kindsOfLord s m args below meth c H locs 0 0 Q (F0 m 4 ls [])) : ∀ (fu : Nat)  (l1 : Int32) (l2 : Int32) (l3 : Int32) (l4 : Int32) (H : Heap) (locs : List Loc) (ls : Array Slot), f_X9_kindsOfLord_b15 k_b4 all fu l1 l2 l3 l4 = some rv → sS D vwCl A s.heap (wd_X9_kindsOfLord cI cB cZ a_this a_all a_kept a_isKept a_refused a_hand a_outs a_order0 a_bestOrder a_tells a_bytes a_anew a_values all above below_ bytesLong tokenAt tokenLong token value) H locs → lv_has ls 6 [(0, .ref a_this), (1, .int l1), (2, .int l2), (3, .int l3), (4, .int l4)] → W p l e rm_X9_kindsOfLord s m args below meth c H locs 0 0 Q (F0 m 15 ls []) := by
  obtain ⟨hx, hb, hml, hown, hts, hK, hA⟩ := id C0
  have inX9 : ∀ w ∈ u_ws RX9 TX9 19, w ∈ wsX9_kindsOfLord := inX9_X9_kindsOfLord
  intro fu
  induction fu with
  | zero => intro l1 l2 l3 l4 H locs ls h; cases h
  | succ fu ih =>
    intro l1 l2 l3 l4 H locs ls h hS hl
    rw [f_X9_kindsOfLord_b15] at h
    refine lv_iload hx hb dX9_kindsOfLord_15 (lv_at hl 4 rfl) ?_
    refine lv_aload_n hx hb dX9_kindsOfLord_17 rfl (lv_at hl 0 rfl) ?_
    refine s_get (C := RX9) (T := TX9) (N := 19) hx hb hts inX9 hown hK hS 0 rfl rfl 0 (by decide) (hts (.fieldLink RX9 7 "InnTurnedModel" "all" "[I") (List.mem_of_getElem? (i := 1) rfl)) rfl rfl dX9_kindsOfLord_18 ?_
    refine lv_iconst (v := (3 : Int32)) hx hb dX9_kindsOfLord_21 (by decide) ?_
    refine s_iald hx hb hK hS 1 rfl rfl (by decide) dX9_kindsOfLord_22 ?_
    refine lv_icmp_ge (tgt := 83) hx hb dX9_kindsOfLord_23 (by decide) (fun c1 => ?_) (fun c1 => ?_)
    · replace h := s_yes c1 h
      refine lv_iload_n hx hb dX9_kindsOfLord_83 rfl (lv_at hl 1 rfl) ?_
      refine lv_iload_n hx hb dX9_kindsOfLord_84 rfl (lv_at hl 3 rfl) ?_
      refine lv_if_eq (tgt := 94) hx hb dX9_kindsOfLord_85 (by decide) (fun c2 => ?_) (fun c2 => ?_)
      · replace h := s_yes c2 h
        refine lv_iconst (v := (0 : Int32)) hx hb dX9_kindsOfLord_94 (by decide) ?_
        exact w_X9_kindsOfLord_b95 C0 hend k_b4 hk_b4 l2 (0 : Int32) l1 _ _ _ h hS (lv_sub hl [0, 2] rfl)
      replace h := s_no c2 h
      refine lv_iconst (v := (1 : Int32)) hx hb dX9_kindsOfLord_88 (by decide) ?_
      refine lv_iload_n hx hb dX9_kindsOfLord_89 rfl (lv_at hl 2 rfl) ?_
      refine lv_ishl hx hb dX9_kindsOfLord_90 ?_
      refine lv_goto (tgt := 95) hx hb dX9_kindsOfLord_91 (by decide) ?_
      exact w_X9_kindsOfLord_b95 C0 hend k_b4 hk_b4 l2 ((1 : Int32) <<< (l2 &&& 31)) l1 _ _ _ h hS (lv_sub hl [0, 2] rfl)
    replace h := s_no c1 h
    refine lv_bipush (v := (88 : Int32)) hx hb dX9_kindsOfLord_26 (by decide) ?_
    refine lv_iconst (v := (3 : Int32)) hx hb dX9_kindsOfLord_28 (by decide) ?_
    refine lv_iload hx hb dX9_kindsOfLord_29 (lv_at hl 4 rfl) ?_
    refine lv_imul hx hb dX9_kindsOfLord_31 ?_
    refine lv_iadd hx hb dX9_kindsOfLord_32 ?_
    refine lv_istore (lv' := [(5, .int ((88 : Int32) + ((3 : Int32) * l4))), (0, .ref a_this), (1, .int l1), (2, .int l2), (3, .int l3), (4, .int l4)]) hx hb dX9_kindsOfLord_33 hl (by decide) rfl (fun ls hl => ?_)
    refine lv_iload_n hx hb dX9_kindsOfLord_35 rfl (lv_at hl 4 rfl) ?_
    refine lv_if_eq (tgt := 75) hx hb dX9_kindsOfLord_36 (by decide) (fun c3 => ?_) (fun c3 => ?_)
    · replace h := s_yes c3 h
      exact w_X9_kindsOfLord_b75 C0 hend k_b4 hk_b4 (f_X9_kindsOfLord_b15 k_b4 all fu) ih l1 l2 l4 _ _ _ h hS (lv_sub hl [1, 2, 3, 5] rfl)
    replace h := s_no c3 h
    refine lv_iload_n hx hb dX9_kindsOfLord_39 rfl (lv_at hl 3 rfl) ?_
    refine lv_aload_n hx hb dX9_kindsOfLord_40 rfl (lv_at hl 1 rfl) ?_
    refine s_get (C := RX9) (T := TX9) (N := 19) hx hb hts inX9 hown hK hS 0 rfl rfl 0 (by decide) (hts (.fieldLink RX9 7 "InnTurnedModel" "all" "[I") (List.mem_of_getElem? (i := 1) rfl)) rfl rfl dX9_kindsOfLord_41 ?_
    refine lv_iload hx hb dX9_kindsOfLord_44 (lv_at hl 0 rfl) ?_
    obtain ⟨g4, h⟩ := s_guard h
    refine s_iald hx hb hK hS 1 rfl rfl g4 dX9_kindsOfLord_46 ?_
    refine lv_aload_n hx hb dX9_kindsOfLord_47 rfl (lv_at hl 1 rfl) ?_
    refine s_get (C := RX9) (T := TX9) (N := 19) hx hb hts inX9 hown hK hS 0 rfl rfl 0 (by decide) (hts (.fieldLink RX9 7 "InnTurnedModel" "all" "[I") (List.mem_of_getElem? (i := 1) rfl)) rfl rfl dX9_kindsOfLord_48 ?_
    refine lv_iload hx hb dX9_kindsOfLord_51 (lv_at hl 0 rfl) ?_
    refine lv_iconst (v := (1 : Int32)) hx hb dX9_kindsOfLord_53 (by decide) ?_
    refine lv_iadd hx hb dX9_kindsOfLord_54 ?_
    obtain ⟨g5, h⟩ := s_guard h
    refine s_iald hx hb hK hS 1 rfl rfl g5 dX9_kindsOfLord_55 ?_
    obtain ⟨q6, hq6, h⟩ := s_bind h
    refine u_calliS (r := q6) (As := [.int l2, .int (all (Int32.toNatClampNeg ((88 : Int32) + ((3 : Int32) * l4)))), .int (all (Int32.toNatClampNeg (((88 : Int32) + ((3 : Int32) * l4)) + (1 : Int32))))]) (rest := []) (wc := ([] : va_W)) hx hb hml hown hts hK hA hl hS (c_X9_passesAs l D cI cB cZ l2 (all (Int32.toNatClampNeg ((88 : Int32) + ((3 : Int32) * l4)))) (all (Int32.toNatClampNeg (((88 : Int32) + ((3 : Int32) * l4)) + (1 : Int32)))) _ _ hq6) (va_cwS 3 hts gX9_kindsOfLord_X9_passesAs rfl rfl rfl (by decide +kernel) ⟨Nat.le_of_ble_eq_true rfl, Nat.le_of_ble_eq_true rfl⟩) [] rfl rfl rfl rfl (Nat.le_of_ble_eq_true rfl) dX9_kindsOfLord_56 (fun H locs hS => ?_)
    refine lv_aload_n hx hb dX9_kindsOfLord_59 rfl (lv_at hl 1 rfl) ?_
    refine s_get (C := RX9) (T := TX9) (N := 19) hx hb hts inX9 hown hK hS 0 rfl rfl 0 (by decide) (hts (.fieldLink RX9 7 "InnTurnedModel" "all" "[I") (List.mem_of_getElem? (i := 1) rfl)) rfl rfl dX9_kindsOfLord_60 ?_
    refine lv_iload hx hb dX9_kindsOfLord_63 (lv_at hl 0 rfl) ?_
    refine lv_iconst (v := (2 : Int32)) hx hb dX9_kindsOfLord_65 (by decide) ?_
    refine lv_iadd hx hb dX9_kindsOfLord_66 ?_
    obtain ⟨g7, h⟩ := s_guard h
    refine s_iald hx hb hK hS 1 rfl rfl g7 dX9_kindsOfLord_67 ?_
    refine lv_icmp_ne (tgt := 75) hx hb dX9_kindsOfLord_68 (by decide) (fun c8 => ?_) (fun c8 => ?_)
    · replace h := s_no c8 h
      exact w_X9_kindsOfLord_b75 C0 hend k_b4 hk_b4 (f_X9_kindsOfLord_b15 k_b4 all fu) ih l1 l2 l4 _ _ _ h hS (lv_sub hl [1, 2, 3, 5] rfl)
    replace h := s_yes c8 h
    refine lv_iconst (v := (1 : Int32)) hx hb dX9_kindsOfLord_71 (by decide) ?_
    refine lv_goto (tgt := 76) hx hb dX9_kindsOfLord_72 (by decide) ?_
    exact w_X9_kindsOfLord_b76 C0 hend k_b4 hk_b4 (f_X9_kindsOfLord_b15 k_b4 all fu) ih l1 l2 l4 (1 : Int32) _ _ _ h hS (lv_sub hl [1, 2, 3, 5] rfl)
def f_X9_kindsOfLord_b4  (all : (Nat → Int32)) : Nat → Int32 → Int32 → Option (Int32)
  | 0, _, _ => none
  | fu + 1, l1, l2 => (if (6 : Int32) ≤ l2 then some (l1) else f_X9_kindsOfLord_b15 (f_X9_kindsOfLord_b4 all fu) all s_fuel l1 l2 (1 : Int32) (0 : Int32))
set_option maxHeartbeats 4000000 in
set_option maxRecDepth 100000 in
theorem w_X9_kindsOfLord_b4 {p : Program} {l : Launch} {e : Env} {s : State} {m : MethodId} {args : Array Value} {below : List Frame} {meth : Method} {c : Code} {A : Nat → Prop} {Q : State → Prop} {D : va_G} {cI cB cZ : ClassId} {a_this a_all a_kept a_isKept a_refused a_hand a_outs a_order0 a_bestOrder a_tells a_bytes a_anew a_values : Nat} {all : (Nat → Int32)} {above : Int64} {below_ : Int64} {bytesLong : Int32} {tokenAt : Int32} {tokenLong : Int32} {token : Int32} {value : Int32} (C0 : Cx p s m args c cX9_kindsOfLord 6 RX9 wsX9_kindsOfLord D (s_tys cI cB cZ) A) {rv : Int32} (hend : ∀ (pc : Nat) (H : Heap) (locs : List Loc) (ls : Array Slot), decode cX9_kindsOfLord pc = .ok (.ireturn, 1) → sS D vwCl A s.heap (wd_X9_kindsOfLord cI cB cZ a_this a_all a_kept a_isKept a_refused a_hand a_outs a_order0 a_bestOrder a_tells a_bytes a_anew a_values all above below_ bytesLong tokenAt tokenLong token value) H locs → W p l e rm_X9_kindsOfLord s m args below meth c H locs 0 0 Q (F0 m pc ls [.int rv])) : ∀ (fu : Nat)  (l1 : Int32) (l2 : Int32) (H : Heap) (locs : List Loc) (ls : Array Slot), f_X9_kindsOfLord_b4 all fu l1 l2 = some rv → sS D vwCl A s.heap (wd_X9_kindsOfLord cI cB cZ a_this a_all a_kept a_isKept a_refused a_hand a_outs a_order0 a_bestOrder a_tells a_bytes a_anew a_values all above below_ bytesLong tokenAt tokenLong token value) H locs → lv_has ls 6 [(0, .ref a_this), (1, .int l1), (2, .int l2)] → W p l e rm_X9_kindsOfLord s m args below meth c H locs 0 0 Q (F0 m 4 ls []) := by
  obtain ⟨hx, hb, hml, hown, hts, hK, hA⟩ := id C0
  have inX9 : ∀ w ∈ u_ws RX9 TX9 19, w ∈ wsX9_kindsOfLord := inX9_X9_kindsOfLord
  intro fu
  induction fu with
  | zero => intro l1 l2 H locs ls h; cases h
  | succ fu ih =>
    intro l1 l2 H locs ls h hS hl
    rw [f_X9_kindsOfLord_b4] at h
    refine lv_iload_n hx hb dX9_kindsOfLord_4 rfl (lv_at hl 2 rfl) ?_
    refine lv_bipush (v := (6 : Int32)) hx hb dX9_kindsOfLord_5 (by decide) ?_
    refine lv_icmp_ge (tgt := 103) hx hb dX9_kindsOfLord_7 (by decide) (fun c9 => ?_) (fun c9 => ?_)
    · replace h := s_yes c9 h
      refine lv_iload_n hx hb dX9_kindsOfLord_103 rfl (lv_at hl 1 rfl) ?_
      obtain rfl := Option.some.inj h
      exact hend _ _ _ _ dX9_kindsOfLord_104 hS
    replace h := s_no c9 h
    refine lv_iconst (v := (1 : Int32)) hx hb dX9_kindsOfLord_10 (by decide) ?_
    refine lv_istore_n (lv' := [(3, .int (1 : Int32)), (0, .ref a_this), (1, .int l1), (2, .int l2)]) hx hb dX9_kindsOfLord_11 rfl hl (by decide) rfl (fun ls hl => ?_)
    refine lv_iconst (v := (0 : Int32)) hx hb dX9_kindsOfLord_12 (by decide) ?_
    refine lv_istore (lv' := [(4, .int (0 : Int32)), (3, .int (1 : Int32)), (0, .ref a_this), (1, .int l1), (2, .int l2)]) hx hb dX9_kindsOfLord_13 hl (by decide) rfl (fun ls hl => ?_)
    exact w_X9_kindsOfLord_b15 C0 hend (f_X9_kindsOfLord_b4 all fu) ih s_fuel l1 l2 (1 : Int32) (0 : Int32) _ _ _ h hS (lv_sub hl [2, 3, 4, 1, 0] rfl)
def f_X9_kindsOfLord  (all : (Nat → Int32))  : Option (Int32) := f_X9_kindsOfLord_b4  all s_fuel (0 : Int32) (0 : Int32)
set_option maxHeartbeats 4000000 in
set_option maxRecDepth 100000 in
theorem c_X9_kindsOfLord (l : Launch) (D : va_G) (cI cB cZ : ClassId) (a_this : Nat) (a_all : Nat) (a_kept : Nat) (a_isKept : Nat) (a_refused : Nat) (a_hand : Nat) (a_outs : Nat) (a_order0 : Nat) (a_bestOrder : Nat) (a_tells : Nat) (a_bytes : Nat) (a_anew : Nat) (a_values : Nat) (all : (Nat → Int32)) (above : Int64) (below_ : Int64) (bytesLong : Int32) (tokenAt : Int32) (tokenLong : Int32) (token : Int32) (value : Int32) (rv : Int32) (sz : Nat) (hf : f_X9_kindsOfLord all = some rv) : Met l yX9_kindsOfLord wsX9_kindsOfLord rm_X9_kindsOfLord (sPc D vwCl (s_tys cI cB cZ) [.ref a_this] (wd_X9_kindsOfLord cI cB cZ a_this a_all a_kept a_isKept a_refused a_hand a_outs a_order0 a_bestOrder a_tells a_bytes a_anew a_values all above below_ bytesLong tokenAt tokenLong token value) sz) (sQi D vwCl (wd_X9_kindsOfLord cI cB cZ a_this a_all a_kept a_isKept a_refused a_hand a_outs a_order0 a_bestOrder a_tells a_bytes a_anew a_values all above below_ bytesLong tokenAt tokenLong token value) (wd_X9_kindsOfLord cI cB cZ a_this a_all a_kept a_isKept a_refused a_hand a_outs a_order0 a_bestOrder a_tells a_bytes a_anew a_values all above below_ bytesLong tokenAt tokenLong token value) sz rv) 0 0 (va_A (wd_X9_kindsOfLord cI cB cZ a_this a_all a_kept a_isKept a_refused a_hand a_outs a_order0 a_bestOrder a_tells a_bytes a_anew a_values all above below_ bytesLong tokenAt tokenLong token value) sz) := by
  refine s_enter_n (cc := cX9_kindsOfLord) (nL := 6) (r := rv) (by decide) rfl (Nat.le_of_ble_eq_true rfl) ?_
  intro p e s m args below meth c A Q C0 hend ls hl hS
  have h := hf
  clear hf
  replace hl : lv_has ls 6 [(0, .ref a_this)] := hl
  unfold f_X9_kindsOfLord at h
  obtain ⟨hx, hb, hml, hown, hts, hK, hA⟩ := id C0
  have inX9 : ∀ w ∈ u_ws RX9 TX9 19, w ∈ wsX9_kindsOfLord := inX9_X9_kindsOfLord
  refine lv_iconst (v := (0 : Int32)) hx hb dX9_kindsOfLord_0 (by decide) ?_
  refine lv_istore_n (lv' := [(1, .int (0 : Int32)), (0, .ref a_this)]) hx hb dX9_kindsOfLord_1 rfl hl (by decide) rfl (fun ls hl => ?_)
  refine lv_iconst (v := (0 : Int32)) hx hb dX9_kindsOfLord_2 (by decide) ?_
  refine lv_istore_n (lv' := [(2, .int (0 : Int32)), (1, .int (0 : Int32)), (0, .ref a_this)]) hx hb dX9_kindsOfLord_3 rfl hl (by decide) rfl (fun ls hl => ?_)
  exact w_X9_kindsOfLord_b4 C0 hend  s_fuel (0 : Int32) (0 : Int32) _ _ _ h hS (lv_sub hl [2, 1, 0] rfl)

-- InnTurnedModel.mostAlike(I)I
def wd_X9_mostAlike (cI cB cZ : ClassId) (a_this : Nat) (a_all : Nat) (a_kept : Nat) (a_isKept : Nat) (a_refused : Nat) (a_hand : Nat) (a_outs : Nat) (a_order0 : Nat) (a_bestOrder : Nat) (a_tells : Nat) (a_bytes : Nat) (a_anew : Nat) (a_values : Nat)  (above : Int64) (below_ : Int64) (tells : (Nat → Int32)) (bytesLong : Int32) (tokenAt : Int32) (tokenLong : Int32) (token : Int32) (value : Int32) : va_W := [(a_this, .inr (6, [.ref a_all, .ref a_kept, .ref a_isKept, .ref a_refused, .long above, .long below_, .ref a_hand, .ref a_outs, .ref a_order0, .ref a_bestOrder, .ref a_tells, .ref a_bytes, .int bytesLong, .int tokenAt, .int tokenLong, .int token, .int value, .ref a_anew, .ref a_values])), (a_tells, .inl (cI, 6, .inl tells))]
abbrev rm_X9_mostAlike : Room := { frames := 1, cells := 0, slots := 0, locals := 21 }
set_option maxRecDepth 20000 in
theorem inX9_X9_mostAlike : ∀ w ∈ u_ws RX9 TX9 19, w ∈ wsX9_mostAlike := by decide +kernel
def f_X9_mostAlike_b84 (k_b4 : Int32 → Int32 → Int32 → Option (Int32))  (tells : (Nat → Int32))  (l1 : Int32) (l3 : Int32) (t0 : Int32) : Option (Int32) := k_b4 l1 t0 (l3 + (1 : Int32))
set_option maxHeartbeats 4000000 in
set_option maxRecDepth 100000 in
theorem w_X9_mostAlike_b84 {p : Program} {l : Launch} {e : Env} {s : State} {m : MethodId} {args : Array Value} {below : List Frame} {meth : Method} {c : Code} {A : Nat → Prop} {Q : State → Prop} {D : va_G} {cI cB cZ : ClassId} {a_this a_all a_kept a_isKept a_refused a_hand a_outs a_order0 a_bestOrder a_tells a_bytes a_anew a_values : Nat} {above : Int64} {below_ : Int64} {tells : (Nat → Int32)} {bytesLong : Int32} {tokenAt : Int32} {tokenLong : Int32} {token : Int32} {value : Int32} (C0 : Cx p s m args c cX9_mostAlike 6 RX9 wsX9_mostAlike D (s_tys cI cB cZ) A) {rv : Int32} (hend : ∀ (pc : Nat) (H : Heap) (locs : List Loc) (ls : Array Slot), decode cX9_mostAlike pc = .ok (.ireturn, 1) → sS D vwCl A s.heap (wd_X9_mostAlike cI cB cZ a_this a_all a_kept a_isKept a_refused a_hand a_outs a_order0 a_bestOrder a_tells a_bytes a_anew a_values above below_ tells bytesLong tokenAt tokenLong token value) H locs → W p l e rm_X9_mostAlike s m args below meth c H locs 0 0 Q (F0 m pc ls [.int rv])) (k_b4 : Int32 → Int32 → Int32 → Option (Int32)) (hk_b4 : ∀  (l1 : Int32) (l2 : Int32) (l3 : Int32) (H : Heap) (locs : List Loc) (ls : Array Slot), k_b4 l1 l2 l3 = some rv → sS D vwCl A s.heap (wd_X9_mostAlike cI cB cZ a_this a_all a_kept a_isKept a_refused a_hand a_outs a_order0 a_bestOrder a_tells a_bytes a_anew a_values above below_ tells bytesLong tokenAt tokenLong token value) H locs → lv_has ls 6 [(0, .ref a_this), (1, .int l1), (2, .int l2), (3, .int l3)] → W p l e rm_X9_mostAlike s m args below meth c H locs 0 0 Q (F0 m 4 ls [])) : ∀  (l1 : Int32) (l3 : Int32) (t0 : Int32) (H : Heap) (locs : List Loc) (ls : Array Slot), f_X9_mostAlike_b84 k_b4 tells l1 l3 t0 = some rv → sS D vwCl A s.heap (wd_X9_mostAlike cI cB cZ a_this a_all a_kept a_isKept a_refused a_hand a_outs a_order0 a_bestOrder a_tells a_bytes a_anew a_values above below_ tells bytesLong tokenAt tokenLong token value) H locs → lv_has ls 6 [(0, .ref a_this), (1, .int l1), (3, .int l3)] → W p l e rm_X9_mostAlike s m args below meth c H locs 0 0 Q (F0 m 84 ls [.int t0]) := by
  obtain ⟨hx, hb, hml, hown, hts, hK, hA⟩ := id C0
  have inX9 : ∀ w ∈ u_ws RX9 TX9 19, w ∈ wsX9_mostAlike := inX9_X9_mostAlike
  intro l1 l3 t0 H locs ls h hS hl
  unfold f_X9_mostAlike_b84 at h
  refine lv_istore_n (lv' := [(2, .int t0), (0, .ref a_this), (1, .int l1), (3, .int l3)]) hx hb dX9_mostAlike_84 rfl hl (by decide) rfl (fun ls hl => ?_)
  refine lv_iinc (v := (l3 + (1 : Int32))) (lv' := [(3, .int (l3 + (1 : Int32))), (2, .int t0), (0, .ref a_this), (1, .int l1)]) hx hb dX9_mostAlike_85 hl (k := 3) rfl rfl (by decide) rfl (fun ls hl => ?_)
  refine lv_goto (tgt := 4) hx hb dX9_mostAlike_88 (by decide) ?_
  exact hk_b4 l1 t0 (l3 + (1 : Int32)) _ _ _ h hS (lv_sub hl [2, 3, 1, 0] rfl)
def f_X9_mostAlike_b72 (k_b4 : Int32 → Int32 → Int32 → Option (Int32))  (tells : (Nat → Int32))  (l1 : Int32) (l2 : Int32) (l3 : Int32) (l4 : Int32) : Option (Int32) := (if l4 ≤ l2 then f_X9_mostAlike_b84 k_b4 tells l1 l3 l2 else f_X9_mostAlike_b84 k_b4 tells l1 l3 l4)
set_option maxHeartbeats 4000000 in
set_option maxRecDepth 100000 in
theorem w_X9_mostAlike_b72 {p : Program} {l : Launch} {e : Env} {s : State} {m : MethodId} {args : Array Value} {below : List Frame} {meth : Method} {c : Code} {A : Nat → Prop} {Q : State → Prop} {D : va_G} {cI cB cZ : ClassId} {a_this a_all a_kept a_isKept a_refused a_hand a_outs a_order0 a_bestOrder a_tells a_bytes a_anew a_values : Nat} {above : Int64} {below_ : Int64} {tells : (Nat → Int32)} {bytesLong : Int32} {tokenAt : Int32} {tokenLong : Int32} {token : Int32} {value : Int32} (C0 : Cx p s m args c cX9_mostAlike 6 RX9 wsX9_mostAlike D (s_tys cI cB cZ) A) {rv : Int32} (hend : ∀ (pc : Nat) (H : Heap) (locs : List Loc) (ls : Array Slot), decode cX9_mostAlike pc = .ok (.ireturn, 1) → sS D vwCl A s.heap (wd_X9_mostAlike cI cB cZ a_this a_all a_kept a_isKept a_refused a_hand a_outs a_order0 a_bestOrder a_tells a_bytes a_anew a_values above below_ tells bytesLong tokenAt tokenLong token value) H locs → W p l e rm_X9_mostAlike s m args below meth c H locs 0 0 Q (F0 m pc ls [.int rv])) (k_b4 : Int32 → Int32 → Int32 → Option (Int32)) (hk_b4 : ∀  (l1 : Int32) (l2 : Int32) (l3 : Int32) (H : Heap) (locs : List Loc) (ls : Array Slot), k_b4 l1 l2 l3 = some rv → sS D vwCl A s.heap (wd_X9_mostAlike cI cB cZ a_this a_all a_kept a_isKept a_refused a_hand a_outs a_order0 a_bestOrder a_tells a_bytes a_anew a_values above below_ tells bytesLong tokenAt tokenLong token value) H locs → lv_has ls 6 [(0, .ref a_this), (1, .int l1), (2, .int l2), (3, .int l3)] → W p l e rm_X9_mostAlike s m args below meth c H locs 0 0 Q (F0 m 4 ls [])) : ∀  (l1 : Int32) (l2 : Int32) (l3 : Int32) (l4 : Int32) (H : Heap) (locs : List Loc) (ls : Array Slot), f_X9_mostAlike_b72 k_b4 tells l1 l2 l3 l4 = some rv → sS D vwCl A s.heap (wd_X9_mostAlike cI cB cZ a_this a_all a_kept a_isKept a_refused a_hand a_outs a_order0 a_bestOrder a_tells a_bytes a_anew a_values above below_ tells bytesLong tokenAt tokenLong token value) H locs → lv_has ls 6 [(0, .ref a_this), (1, .int l1), (2, .int l2), (3, .int l3), (4, .int l4)] → W p l e rm_X9_mostAlike s m args below meth c H locs 0 0 Q (F0 m 72 ls []) := by
  obtain ⟨hx, hb, hml, hown, hts, hK, hA⟩ := id C0
  have inX9 : ∀ w ∈ u_ws RX9 TX9 19, w ∈ wsX9_mostAlike := inX9_X9_mostAlike
  intro l1 l2 l3 l4 H locs ls h hS hl
  unfold f_X9_mostAlike_b72 at h
  refine lv_iload hx hb dX9_mostAlike_72 (lv_at hl 4 rfl) ?_
  refine lv_iload_n hx hb dX9_mostAlike_74 rfl (lv_at hl 2 rfl) ?_
  refine lv_icmp_le (tgt := 83) hx hb dX9_mostAlike_75 (by decide) (fun c1 => ?_) (fun c1 => ?_)
  · replace h := s_yes c1 h
    refine lv_iload_n hx hb dX9_mostAlike_83 rfl (lv_at hl 2 rfl) ?_
    exact w_X9_mostAlike_b84 C0 hend k_b4 hk_b4 l1 l3 l2 _ _ _ h hS (lv_sub hl [0, 1, 3] rfl)
  replace h := s_no c1 h
  refine lv_iload hx hb dX9_mostAlike_78 (lv_at hl 4 rfl) ?_
  refine lv_goto (tgt := 84) hx hb dX9_mostAlike_80 (by decide) ?_
  exact w_X9_mostAlike_b84 C0 hend k_b4 hk_b4 l1 l3 l4 _ _ _ h hS (lv_sub hl [0, 1, 3] rfl)
def f_X9_mostAlike_b63 (k_b4 : Int32 → Int32 → Int32 → Option (Int32)) (k_b16 : Int32 → Int32 → Int32 → Int32 → Int32 → Option (Int32))  (tells : (Nat → Int32))  (l1 : Int32) (l2 : Int32) (l3 : Int32) (l5 : Int32) (t0 : Int32) (t1 : Int32) : Option (Int32) := k_b16 l1 l2 l3 (t1 + t0) (l5 + (1 : Int32))
set_option maxHeartbeats 4000000 in
set_option maxRecDepth 100000 in
theorem w_X9_mostAlike_b63 {p : Program} {l : Launch} {e : Env} {s : State} {m : MethodId} {args : Array Value} {below : List Frame} {meth : Method} {c : Code} {A : Nat → Prop} {Q : State → Prop} {D : va_G} {cI cB cZ : ClassId} {a_this a_all a_kept a_isKept a_refused a_hand a_outs a_order0 a_bestOrder a_tells a_bytes a_anew a_values : Nat} {above : Int64} {below_ : Int64} {tells : (Nat → Int32)} {bytesLong : Int32} {tokenAt : Int32} {tokenLong : Int32} {token : Int32} {value : Int32} (C0 : Cx p s m args c cX9_mostAlike 6 RX9 wsX9_mostAlike D (s_tys cI cB cZ) A) {rv : Int32} (hend : ∀ (pc : Nat) (H : Heap) (locs : List Loc) (ls : Array Slot), decode cX9_mostAlike pc = .ok (.ireturn, 1) → sS D vwCl A s.heap (wd_X9_mostAlike cI cB cZ a_this a_all a_kept a_isKept a_refused a_hand a_outs a_order0 a_bestOrder a_tells a_bytes a_anew a_values above below_ tells bytesLong tokenAt tokenLong token value) H locs → W p l e rm_X9_mostAlike s m args below meth c H locs 0 0 Q (F0 m pc ls [.int rv])) (k_b4 : Int32 → Int32 → Int32 → Option (Int32)) (hk_b4 : ∀  (l1 : Int32) (l2 : Int32) (l3 : Int32) (H : Heap) (locs : List Loc) (ls : Array Slot), k_b4 l1 l2 l3 = some rv → sS D vwCl A s.heap (wd_X9_mostAlike cI cB cZ a_this a_all a_kept a_isKept a_refused a_hand a_outs a_order0 a_bestOrder a_tells a_bytes a_anew a_values above below_ tells bytesLong tokenAt tokenLong token value) H locs → lv_has ls 6 [(0, .ref a_this), (1, .int l1), (2, .int l2), (3, .int l3)] → W p l e rm_X9_mostAlike s m args below meth c H locs 0 0 Q (F0 m 4 ls [])) (k_b16 : Int32 → Int32 → Int32 → Int32 → Int32 → Option (Int32)) (hk_b16 : ∀  (l1 : Int32) (l2 : Int32) (l3 : Int32) (l4 : Int32) (l5 : Int32) (H : Heap) (locs : List Loc) (ls : Array Slot), k_b16 l1 l2 l3 l4 l5 = some rv → sS D vwCl A s.heap (wd_X9_mostAlike cI cB cZ a_this a_all a_kept a_isKept a_refused a_hand a_outs a_order0 a_bestOrder a_tells a_bytes a_anew a_values above below_ tells bytesLong tokenAt tokenLong token value) H locs → lv_has ls 6 [(0, .ref a_this), (1, .int l1), (2, .int l2), (3, .int l3), (4, .int l4), (5, .int l5)] → W p l e rm_X9_mostAlike s m args below meth c H locs 0 0 Q (F0 m 16 ls [])) : ∀  (l1 : Int32) (l2 : Int32) (l3 : Int32) (l5 : Int32) (t0 : Int32) (t1 : Int32) (H : Heap) (locs : List Loc) (ls : Array Slot), f_X9_mostAlike_b63 k_b4 k_b16 tells l1 l2 l3 l5 t0 t1 = some rv → sS D vwCl A s.heap (wd_X9_mostAlike cI cB cZ a_this a_all a_kept a_isKept a_refused a_hand a_outs a_order0 a_bestOrder a_tells a_bytes a_anew a_values above below_ tells bytesLong tokenAt tokenLong token value) H locs → lv_has ls 6 [(0, .ref a_this), (1, .int l1), (2, .int l2), (3, .int l3), (5, .int l5)] → W p l e rm_X9_mostAlike s m args below meth c H locs 0 0 Q (F0 m 63 ls [.int t0, .int t1]) := by
  obtain ⟨hx, hb, hml, hown, hts, hK, hA⟩ := id C0
  have inX9 : ∀ w ∈ u_ws RX9 TX9 19, w ∈ wsX9_mostAlike := inX9_X9_mostAlike
  intro l1 l2 l3 l5 t0 t1 H locs ls h hS hl
  unfold f_X9_mostAlike_b63 at h
  refine lv_iadd hx hb dX9_mostAlike_63 ?_
  refine lv_istore (lv' := [(4, .int (t1 + t0)), (0, .ref a_this), (1, .int l1), (2, .int l2), (3, .int l3), (5, .int l5)]) hx hb dX9_mostAlike_64 hl (by decide) rfl (fun ls hl => ?_)
  refine lv_iinc (v := (l5 + (1 : Int32))) (lv' := [(5, .int (l5 + (1 : Int32))), (4, .int (t1 + t0)), (0, .ref a_this), (1, .int l1), (2, .int l2), (3, .int l3)]) hx hb dX9_mostAlike_66 hl (k := 5) rfl rfl (by decide) rfl (fun ls hl => ?_)
  refine lv_goto (tgt := 16) hx hb dX9_mostAlike_69 (by decide) ?_
  exact hk_b16 l1 l2 l3 (t1 + t0) (l5 + (1 : Int32)) _ _ _ h hS (lv_sub hl [2, 3, 4, 5, 1, 0] rfl)
def f_X9_mostAlike_b62 (k_b4 : Int32 → Int32 → Int32 → Option (Int32)) (k_b16 : Int32 → Int32 → Int32 → Int32 → Int32 → Option (Int32))  (tells : (Nat → Int32))  (l1 : Int32) (l2 : Int32) (l3 : Int32) (l5 : Int32) (t0 : Int32) : Option (Int32) := f_X9_mostAlike_b63 k_b4 k_b16 tells l1 l2 l3 l5 (0 : Int32) t0
set_option maxHeartbeats 4000000 in
set_option maxRecDepth 100000 in
theorem w_X9_mostAlike_b62 {p : Program} {l : Launch} {e : Env} {s : State} {m : MethodId} {args : Array Value} {below : List Frame} {meth : Method} {c : Code} {A : Nat → Prop} {Q : State → Prop} {D : va_G} {cI cB cZ : ClassId} {a_this a_all a_kept a_isKept a_refused a_hand a_outs a_order0 a_bestOrder a_tells a_bytes a_anew a_values : Nat} {above : Int64} {below_ : Int64} {tells : (Nat → Int32)} {bytesLong : Int32} {tokenAt : Int32} {tokenLong : Int32} {token : Int32} {value : Int32} (C0 : Cx p s m args c cX9_mostAlike 6 RX9 wsX9_mostAlike D (s_tys cI cB cZ) A) {rv : Int32} (hend : ∀ (pc : Nat) (H : Heap) (locs : List Loc) (ls : Array Slot), decode cX9_mostAlike pc = .ok (.ireturn, 1) → sS D vwCl A s.heap (wd_X9_mostAlike cI cB cZ a_this a_all a_kept a_isKept a_refused a_hand a_outs a_order0 a_bestOrder a_tells a_bytes a_anew a_values above below_ tells bytesLong tokenAt tokenLong token value) H locs → W p l e rm_X9_mostAlike s m args below meth c H locs 0 0 Q (F0 m pc ls [.int rv])) (k_b4 : Int32 → Int32 → Int32 → Option (Int32)) (hk_b4 : ∀  (l1 : Int32) (l2 : Int32) (l3 : Int32) (H : Heap) (locs : List Loc) (ls : Array Slot), k_b4 l1 l2 l3 = some rv → sS D vwCl A s.heap (wd_X9_mostAlike cI cB cZ a_this a_all a_kept a_isKept a_refused a_hand a_outs a_order0 a_bestOrder a_tells a_bytes a_anew a_values above below_ tells bytesLong tokenAt tokenLong token value) H locs → lv_has ls 6 [(0, .ref a_this), (1, .int l1), (2, .int l2), (3, .int l3)] → W p l e rm_X9_mostAlike s m args below meth c H locs 0 0 Q (F0 m 4 ls [])) (k_b16 : Int32 → Int32 → Int32 → Int32 → Int32 → Option (Int32)) (hk_b16 : ∀  (l1 : Int32) (l2 : Int32) (l3 : Int32) (l4 : Int32) (l5 : Int32) (H : Heap) (locs : List Loc) (ls : Array Slot), k_b16 l1 l2 l3 l4 l5 = some rv → sS D vwCl A s.heap (wd_X9_mostAlike cI cB cZ a_this a_all a_kept a_isKept a_refused a_hand a_outs a_order0 a_bestOrder a_tells a_bytes a_anew a_values above below_ tells bytesLong tokenAt tokenLong token value) H locs → lv_has ls 6 [(0, .ref a_this), (1, .int l1), (2, .int l2), (3, .int l3), (4, .int l4), (5, .int l5)] → W p l e rm_X9_mostAlike s m args below meth c H locs 0 0 Q (F0 m 16 ls [])) : ∀  (l1 : Int32) (l2 : Int32) (l3 : Int32) (l5 : Int32) (t0 : Int32) (H : Heap) (locs : List Loc) (ls : Array Slot), f_X9_mostAlike_b62 k_b4 k_b16 tells l1 l2 l3 l5 t0 = some rv → sS D vwCl A s.heap (wd_X9_mostAlike cI cB cZ a_this a_all a_kept a_isKept a_refused a_hand a_outs a_order0 a_bestOrder a_tells a_bytes a_anew a_values above below_ tells bytesLong tokenAt tokenLong token value) H locs → lv_has ls 6 [(0, .ref a_this), (1, .int l1), (2, .int l2), (3, .int l3), (5, .int l5)] → W p l e rm_X9_mostAlike s m args below meth c H locs 0 0 Q (F0 m 62 ls [.int t0]) := by
  obtain ⟨hx, hb, hml, hown, hts, hK, hA⟩ := id C0
  have inX9 : ∀ w ∈ u_ws RX9 TX9 19, w ∈ wsX9_mostAlike := inX9_X9_mostAlike
  intro l1 l2 l3 l5 t0 H locs ls h hS hl
  unfold f_X9_mostAlike_b62 at h
  refine lv_iconst (v := (0 : Int32)) hx hb dX9_mostAlike_62 (by decide) ?_
  exact w_X9_mostAlike_b63 C0 hend k_b4 hk_b4 k_b16 hk_b16 l1 l2 l3 l5 (0 : Int32) t0 _ _ _ h hS (lv_sub hl [0, 1, 2, 3, 4] rfl)
def f_X9_mostAlike_b16 (k_b4 : Int32 → Int32 → Int32 → Option (Int32))  (tells : (Nat → Int32)) : Nat → Int32 → Int32 → Int32 → Int32 → Int32 → Option (Int32)
  | 0, _, _, _, _, _ => none
  | fu + 1, l1, l2, l3, l4, l5 => (if (6 : Int32) ≤ l5 then f_X9_mostAlike_b72 k_b4 tells l1 l2 l3 l4 else ((f_X9_has l1 l3).bind fun q3 => (if q3 = 0 then f_X9_mostAlike_b72 k_b4 tells l1 l2 l3 l4 else ((f_X9_has l1 l5).bind fun q5 => (if q5 = 0 then f_X9_mostAlike_b62 k_b4 (f_X9_mostAlike_b16 k_b4 tells fu) tells l1 l2 l3 l5 l4 else (if ¬ (l3 < 0 ∨ 6 ≤ (Int32.toNatClampNeg l3)) then (if ¬ (l5 < 0 ∨ 6 ≤ (Int32.toNatClampNeg l5)) then (if (tells (Int32.toNatClampNeg l3)) = (tells (Int32.toNatClampNeg l5)) then f_X9_mostAlike_b63 k_b4 (f_X9_mostAlike_b16 k_b4 tells fu) tells l1 l2 l3 l5 (1 : Int32) l4 else f_X9_mostAlike_b62 k_b4 (f_X9_mostAlike_b16 k_b4 tells fu) tells l1 l2 l3 l5 l4) else none) else none))))))
set_option maxHeartbeats 4000000 in
set_option maxRecDepth 100000 in
theorem w_X9_mostAlike_b16 {p : Program} {l : Launch} {e : Env} {s : State} {m : MethodId} {args : Array Value} {below : List Frame} {meth : Method} {c : Code} {A : Nat → Prop} {Q : State → Prop} {D : va_G} {cI cB cZ : ClassId} {a_this a_all a_kept a_isKept a_refused a_hand a_outs a_order0 a_bestOrder a_tells a_bytes a_anew a_values : Nat} {above : Int64} {below_ : Int64} {tells : (Nat → Int32)} {bytesLong : Int32} {tokenAt : Int32} {tokenLong : Int32} {token : Int32} {value : Int32} (C0 : Cx p s m args c cX9_mostAlike 6 RX9 wsX9_mostAlike D (s_tys cI cB cZ) A) {rv : Int32} (hend : ∀ (pc : Nat) (H : Heap) (locs : List Loc) (ls : Array Slot), decode cX9_mostAlike pc = .ok (.ireturn, 1) → sS D vwCl A s.heap (wd_X9_mostAlike cI cB cZ a_this a_all a_kept a_isKept a_refused a_hand a_outs a_order0 a_bestOrder a_tells a_bytes a_anew a_values above below_ tells bytesLong tokenAt tokenLong token value) H locs → W p l e rm_X9_mostAlike s m args below meth c H locs 0 0 Q (F0 m pc ls [.int rv])) (k_b4 : Int32 → Int32 → Int32 → Option (Int32)) (hk_b4 : ∀  (l1 : Int32) (l2 : Int32) (l3 : Int32) (H : Heap) (locs : List Loc) (ls : Array Slot), k_b4 l1 l2 l3 = some rv → sS D vwCl A s.heap (wd_X9_mostAlike cI cB cZ a_this a_all a_kept a_isKept a_refused a_hand a_outs a_order0 a_bestOrder a_tells a_bytes a_anew a_values above below_ tells bytesLong tokenAt tokenLong token value) H locs → lv_has ls 6 [(0, .ref a_this), (1, .int l1), (2, .int l2), (3, .int l3)] → W p l e rm_X9_mostAlike s m args below meth c H locs 0 0 Q (F0 m 4 ls [])) : ∀ (fu : Nat)  (l1 : Int32) (l2 : Int32) (l3 : Int32) (l4 : Int32) (l5 : Int32) (H : Heap) (locs : List Loc) (ls : Array Slot), f_X9_mostAlike_b16 k_b4 tells fu l1 l2 l3 l4 l5 = some rv → sS D vwCl A s.heap (wd_X9_mostAlike cI cB cZ a_this a_all a_kept a_isKept a_refused a_hand a_outs a_order0 a_bestOrder a_tells a_bytes a_anew a_values above below_ tells bytesLong tokenAt tokenLong token value) H locs → lv_has ls 6 [(0, .ref a_this), (1, .int l1), (2, .int l2), (3, .int l3), (4, .int l4), (5, .int l5)] → W p l e rm_X9_mostAlike s m args below meth c H locs 0 0 Q (F0 m 16 ls []) := by
  obtain ⟨hx, hb, hml, hown, hts, hK, hA⟩ := id C0
  have inX9 : ∀ w ∈ u_ws RX9 TX9 19, w ∈ wsX9_mostAlike := inX9_X9_mostAlike
  intro fu
  induction fu with
  | zero => intro l1 l2 l3 l4 l5 H locs ls h; cases h
  | succ fu ih =>
    intro l1 l2 l3 l4 l5 H locs ls h hS hl
    rw [f_X9_mostAlike_b16] at h
    refine lv_iload hx hb dX9_mostAlike_16 (lv_at hl 5 rfl) ?_
    refine lv_bipush (v := (6 : Int32)) hx hb dX9_mostAlike_18 (by decide) ?_
    refine lv_icmp_ge (tgt := 72) hx hb dX9_mostAlike_20 (by decide) (fun c2 => ?_) (fun c2 => ?_)
    · replace h := s_yes c2 h
      exact w_X9_mostAlike_b72 C0 hend k_b4 hk_b4 l1 l2 l3 l4 _ _ _ h hS (lv_sub hl [0, 1, 2, 3, 4] rfl)
    replace h := s_no c2 h
    refine lv_iload_n hx hb dX9_mostAlike_23 rfl (lv_at hl 1 rfl) ?_
    refine lv_iload_n hx hb dX9_mostAlike_24 rfl (lv_at hl 3 rfl) ?_
    obtain ⟨q3, hq3, h⟩ := s_bind h
    refine u_calliS (r := q3) (As := [.int l1, .int l3]) (rest := []) (wc := ([] : va_W)) hx hb hml hown hts hK hA hl hS (c_X9_has l D cI cB cZ l1 l3 _ _ hq3) (va_cwS 2 hts gX9_mostAlike_X9_has rfl rfl rfl (by decide +kernel) ⟨Nat.le_of_ble_eq_true rfl, Nat.le_of_ble_eq_true rfl⟩) [] rfl rfl rfl rfl (Nat.le_of_ble_eq_true rfl) dX9_mostAlike_25 (fun H locs hS => ?_)
    refine lv_if_eq (tgt := 72) hx hb dX9_mostAlike_28 (by decide) (fun c4 => ?_) (fun c4 => ?_)
    · replace h := s_yes c4 h
      exact w_X9_mostAlike_b72 C0 hend k_b4 hk_b4 l1 l2 l3 l4 _ _ _ h hS (lv_sub hl [0, 1, 2, 3, 4] rfl)
    replace h := s_no c4 h
    refine lv_iload hx hb dX9_mostAlike_31 (lv_at hl 4 rfl) ?_
    refine lv_iload_n hx hb dX9_mostAlike_33 rfl (lv_at hl 1 rfl) ?_
    refine lv_iload hx hb dX9_mostAlike_34 (lv_at hl 5 rfl) ?_
    obtain ⟨q5, hq5, h⟩ := s_bind h
    refine u_calliS (r := q5) (As := [.int l1, .int l5]) (rest := [.int l4]) (wc := ([] : va_W)) hx hb hml hown hts hK hA hl hS (c_X9_has l D cI cB cZ l1 l5 _ _ hq5) (va_cwS 2 hts gX9_mostAlike_X9_has rfl rfl rfl (by decide +kernel) ⟨Nat.le_of_ble_eq_true rfl, Nat.le_of_ble_eq_true rfl⟩) [] rfl rfl rfl rfl (Nat.le_of_ble_eq_true rfl) dX9_mostAlike_36 (fun H locs hS => ?_)
    refine lv_if_eq (tgt := 62) hx hb dX9_mostAlike_39 (by decide) (fun c6 => ?_) (fun c6 => ?_)
    · replace h := s_yes c6 h
      exact w_X9_mostAlike_b62 C0 hend k_b4 hk_b4 (f_X9_mostAlike_b16 k_b4 tells fu) ih l1 l2 l3 l5 l4 _ _ _ h hS (lv_sub hl [0, 1, 2, 3, 5] rfl)
    replace h := s_no c6 h
    refine lv_aload_n hx hb dX9_mostAlike_42 rfl (lv_at hl 0 rfl) ?_
    refine s_get (C := RX9) (T := TX9) (N := 19) hx hb hts inX9 hown hK hS 0 rfl rfl 10 (by decide) (hts (.fieldLink RX9 39 "InnTurnedModel" "tells" "[I") (List.mem_of_getElem? (i := 1) rfl)) rfl rfl dX9_mostAlike_43 ?_
    refine lv_iload_n hx hb dX9_mostAlike_46 rfl (lv_at hl 3 rfl) ?_
    obtain ⟨g7, h⟩ := s_guard h
    refine s_iald hx hb hK hS 1 rfl rfl g7 dX9_mostAlike_47 ?_
    refine lv_aload_n hx hb dX9_mostAlike_48 rfl (lv_at hl 0 rfl) ?_
    refine s_get (C := RX9) (T := TX9) (N := 19) hx hb hts inX9 hown hK hS 0 rfl rfl 10 (by decide) (hts (.fieldLink RX9 39 "InnTurnedModel" "tells" "[I") (List.mem_of_getElem? (i := 1) rfl)) rfl rfl dX9_mostAlike_49 ?_
    refine lv_iload hx hb dX9_mostAlike_52 (lv_at hl 5 rfl) ?_
    obtain ⟨g8, h⟩ := s_guard h
    refine s_iald hx hb hK hS 1 rfl rfl g8 dX9_mostAlike_54 ?_
    refine lv_icmp_ne (tgt := 62) hx hb dX9_mostAlike_55 (by decide) (fun c9 => ?_) (fun c9 => ?_)
    · replace h := s_no c9 h
      exact w_X9_mostAlike_b62 C0 hend k_b4 hk_b4 (f_X9_mostAlike_b16 k_b4 tells fu) ih l1 l2 l3 l5 l4 _ _ _ h hS (lv_sub hl [0, 1, 2, 3, 5] rfl)
    replace h := s_yes c9 h
    refine lv_iconst (v := (1 : Int32)) hx hb dX9_mostAlike_58 (by decide) ?_
    refine lv_goto (tgt := 63) hx hb dX9_mostAlike_59 (by decide) ?_
    exact w_X9_mostAlike_b63 C0 hend k_b4 hk_b4 (f_X9_mostAlike_b16 k_b4 tells fu) ih l1 l2 l3 l5 (1 : Int32) l4 _ _ _ h hS (lv_sub hl [0, 1, 2, 3, 5] rfl)
def f_X9_mostAlike_b4  (tells : (Nat → Int32)) : Nat → Int32 → Int32 → Int32 → Option (Int32)
  | 0, _, _, _ => none
  | fu + 1, l1, l2, l3 => (if (6 : Int32) ≤ l3 then some (l2) else f_X9_mostAlike_b16 (f_X9_mostAlike_b4 tells fu) tells s_fuel l1 l2 l3 (0 : Int32) (0 : Int32))
set_option maxHeartbeats 4000000 in
set_option maxRecDepth 100000 in
theorem w_X9_mostAlike_b4 {p : Program} {l : Launch} {e : Env} {s : State} {m : MethodId} {args : Array Value} {below : List Frame} {meth : Method} {c : Code} {A : Nat → Prop} {Q : State → Prop} {D : va_G} {cI cB cZ : ClassId} {a_this a_all a_kept a_isKept a_refused a_hand a_outs a_order0 a_bestOrder a_tells a_bytes a_anew a_values : Nat} {above : Int64} {below_ : Int64} {tells : (Nat → Int32)} {bytesLong : Int32} {tokenAt : Int32} {tokenLong : Int32} {token : Int32} {value : Int32} (C0 : Cx p s m args c cX9_mostAlike 6 RX9 wsX9_mostAlike D (s_tys cI cB cZ) A) {rv : Int32} (hend : ∀ (pc : Nat) (H : Heap) (locs : List Loc) (ls : Array Slot), decode cX9_mostAlike pc = .ok (.ireturn, 1) → sS D vwCl A s.heap (wd_X9_mostAlike cI cB cZ a_this a_all a_kept a_isKept a_refused a_hand a_outs a_order0 a_bestOrder a_tells a_bytes a_anew a_values above below_ tells bytesLong tokenAt tokenLong token value) H locs → W p l e rm_X9_mostAlike s m args below meth c H locs 0 0 Q (F0 m pc ls [.int rv])) : ∀ (fu : Nat)  (l1 : Int32) (l2 : Int32) (l3 : Int32) (H : Heap) (locs : List Loc) (ls : Array Slot), f_X9_mostAlike_b4 tells fu l1 l2 l3 = some rv → sS D vwCl A s.heap (wd_X9_mostAlike cI cB cZ a_this a_all a_kept a_isKept a_refused a_hand a_outs a_order0 a_bestOrder a_tells a_bytes a_anew a_values above below_ tells bytesLong tokenAt tokenLong token value) H locs → lv_has ls 6 [(0, .ref a_this), (1, .int l1), (2, .int l2), (3, .int l3)] → W p l e rm_X9_mostAlike s m args below meth c H locs 0 0 Q (F0 m 4 ls []) := by
  obtain ⟨hx, hb, hml, hown, hts, hK, hA⟩ := id C0
  have inX9 : ∀ w ∈ u_ws RX9 TX9 19, w ∈ wsX9_mostAlike := inX9_X9_mostAlike
  intro fu
  induction fu with
  | zero => intro l1 l2 l3 H locs ls h; cases h
  | succ fu ih =>
    intro l1 l2 l3 H locs ls h hS hl
    rw [f_X9_mostAlike_b4] at h
    refine lv_iload_n hx hb dX9_mostAlike_4 rfl (lv_at hl 3 rfl) ?_
    refine lv_bipush (v := (6 : Int32)) hx hb dX9_mostAlike_5 (by decide) ?_
    refine lv_icmp_ge (tgt := 91) hx hb dX9_mostAlike_7 (by decide) (fun c10 => ?_) (fun c10 => ?_)
    · replace h := s_yes c10 h
      refine lv_iload_n hx hb dX9_mostAlike_91 rfl (lv_at hl 2 rfl) ?_
      obtain rfl := Option.some.inj h
      exact hend _ _ _ _ dX9_mostAlike_92 hS
    replace h := s_no c10 h
    refine lv_iconst (v := (0 : Int32)) hx hb dX9_mostAlike_10 (by decide) ?_
    refine lv_istore (lv' := [(4, .int (0 : Int32)), (0, .ref a_this), (1, .int l1), (2, .int l2), (3, .int l3)]) hx hb dX9_mostAlike_11 hl (by decide) rfl (fun ls hl => ?_)
    refine lv_iconst (v := (0 : Int32)) hx hb dX9_mostAlike_13 (by decide) ?_
    refine lv_istore (lv' := [(5, .int (0 : Int32)), (4, .int (0 : Int32)), (0, .ref a_this), (1, .int l1), (2, .int l2), (3, .int l3)]) hx hb dX9_mostAlike_14 hl (by decide) rfl (fun ls hl => ?_)
    exact w_X9_mostAlike_b16 C0 hend (f_X9_mostAlike_b4 tells fu) ih s_fuel l1 l2 l3 (0 : Int32) (0 : Int32) _ _ _ h hS (lv_sub hl [2, 3, 4, 5, 1, 0] rfl)
def f_X9_mostAlike  (tells : (Nat → Int32))  (p1 : Int32) : Option (Int32) := f_X9_mostAlike_b4  tells s_fuel p1 (0 : Int32) (0 : Int32)
set_option maxHeartbeats 4000000 in
set_option maxRecDepth 100000 in
theorem c_X9_mostAlike (l : Launch) (D : va_G) (cI cB cZ : ClassId) (a_this : Nat) (a_all : Nat) (a_kept : Nat) (a_isKept : Nat) (a_refused : Nat) (a_hand : Nat) (a_outs : Nat) (a_order0 : Nat) (a_bestOrder : Nat) (a_tells : Nat) (a_bytes : Nat) (a_anew : Nat) (a_values : Nat) (above : Int64) (below_ : Int64) (tells : (Nat → Int32)) (bytesLong : Int32) (tokenAt : Int32) (tokenLong : Int32) (token : Int32) (value : Int32) (p1 : Int32) (rv : Int32) (sz : Nat) (hf : f_X9_mostAlike tells p1 = some rv) : Met l yX9_mostAlike wsX9_mostAlike rm_X9_mostAlike (sPc D vwCl (s_tys cI cB cZ) [.ref a_this, .int p1] (wd_X9_mostAlike cI cB cZ a_this a_all a_kept a_isKept a_refused a_hand a_outs a_order0 a_bestOrder a_tells a_bytes a_anew a_values above below_ tells bytesLong tokenAt tokenLong token value) sz) (sQi D vwCl (wd_X9_mostAlike cI cB cZ a_this a_all a_kept a_isKept a_refused a_hand a_outs a_order0 a_bestOrder a_tells a_bytes a_anew a_values above below_ tells bytesLong tokenAt tokenLong token value) (wd_X9_mostAlike cI cB cZ a_this a_all a_kept a_isKept a_refused a_hand a_outs a_order0 a_bestOrder a_tells a_bytes a_anew a_values above below_ tells bytesLong tokenAt tokenLong token value) sz rv) 0 0 (va_A (wd_X9_mostAlike cI cB cZ a_this a_all a_kept a_isKept a_refused a_hand a_outs a_order0 a_bestOrder a_tells a_bytes a_anew a_values above below_ tells bytesLong tokenAt tokenLong token value) sz) := by
  refine s_enter_n (cc := cX9_mostAlike) (nL := 6) (r := rv) (by decide) rfl (Nat.le_of_ble_eq_true rfl) ?_
  intro p e s m args below meth c A Q C0 hend ls hl hS
  have h := hf
  clear hf
  replace hl : lv_has ls 6 [(0, .ref a_this), (1, .int p1)] := hl
  unfold f_X9_mostAlike at h
  obtain ⟨hx, hb, hml, hown, hts, hK, hA⟩ := id C0
  have inX9 : ∀ w ∈ u_ws RX9 TX9 19, w ∈ wsX9_mostAlike := inX9_X9_mostAlike
  refine lv_iconst (v := (0 : Int32)) hx hb dX9_mostAlike_0 (by decide) ?_
  refine lv_istore_n (lv' := [(2, .int (0 : Int32)), (0, .ref a_this), (1, .int p1)]) hx hb dX9_mostAlike_1 rfl hl (by decide) rfl (fun ls hl => ?_)
  refine lv_iconst (v := (0 : Int32)) hx hb dX9_mostAlike_2 (by decide) ?_
  refine lv_istore_n (lv' := [(3, .int (0 : Int32)), (2, .int (0 : Int32)), (0, .ref a_this), (1, .int p1)]) hx hb dX9_mostAlike_3 rfl hl (by decide) rfl (fun ls hl => ?_)
  exact w_X9_mostAlike_b4 C0 hend  s_fuel p1 (0 : Int32) (0 : Int32) _ _ _ h hS (lv_sub hl [2, 3, 1, 0] rfl)

-- InnTurnedModel.is(I)I
def wd_X9_is (cI cB cZ : ClassId) (a_this : Nat) (a_all : Nat) (a_kept : Nat) (a_isKept : Nat) (a_refused : Nat) (a_hand : Nat) (a_outs : Nat) (a_order0 : Nat) (a_bestOrder : Nat) (a_tells : Nat) (a_bytes : Nat) (a_anew : Nat) (a_values : Nat)  (all : (Nat → Int32)) (refused : (Nat → Int32)) (above : Int64) (below_ : Int64) (bytesLong : Int32) (tokenAt : Int32) (tokenLong : Int32) (token : Int32) (value : Int32) : va_W := [(a_this, .inr (6, [.ref a_all, .ref a_kept, .ref a_isKept, .ref a_refused, .long above, .long below_, .ref a_hand, .ref a_outs, .ref a_order0, .ref a_bestOrder, .ref a_tells, .ref a_bytes, .int bytesLong, .int tokenAt, .int tokenLong, .int token, .int value, .ref a_anew, .ref a_values])), (a_all, .inl (cI, 250, .inl all)), (a_refused, .inl (cI, 3, .inl refused))]
abbrev rm_X9_is : Room := { frames := 2, cells := 0, slots := 0, locals := 51 }
def f_X9_is  (all : (Nat → Int32)) (refused : (Nat → Int32)) (p1 : Int32) : Option (Int32 × (Nat → Int32)) := ((f_X9_isOne all p1).bind fun q1 => (if q1 = 0 then ((f_X9_bad refused (-2 : Int32)).bind fun q3 => some (q3.1, q3.2)) else ((f_X9_kindsOfOne all p1).bind fun q4 => some (q4, refused))))
set_option maxHeartbeats 4000000 in
set_option maxRecDepth 100000 in
theorem c_X9_is (l : Launch) (D : va_G) (cI cB cZ : ClassId) (a_this : Nat) (a_all : Nat) (a_kept : Nat) (a_isKept : Nat) (a_refused : Nat) (a_hand : Nat) (a_outs : Nat) (a_order0 : Nat) (a_bestOrder : Nat) (a_tells : Nat) (a_bytes : Nat) (a_anew : Nat) (a_values : Nat) (all : (Nat → Int32)) (refused : (Nat → Int32)) (above : Int64) (below_ : Int64) (bytesLong : Int32) (tokenAt : Int32) (tokenLong : Int32) (token : Int32) (value : Int32) (p1 : Int32) (rv : Int32 × (Nat → Int32)) (sz : Nat) (hf : f_X9_is all refused p1 = some rv) : Met l yX9_is wsX9_is rm_X9_is (sPc D vwCl (s_tys cI cB cZ) [.ref a_this, .int p1] (wd_X9_is cI cB cZ a_this a_all a_kept a_isKept a_refused a_hand a_outs a_order0 a_bestOrder a_tells a_bytes a_anew a_values all refused above below_ bytesLong tokenAt tokenLong token value) sz) (sQi D vwCl (wd_X9_is cI cB cZ a_this a_all a_kept a_isKept a_refused a_hand a_outs a_order0 a_bestOrder a_tells a_bytes a_anew a_values all refused above below_ bytesLong tokenAt tokenLong token value) (wd_X9_is cI cB cZ a_this a_all a_kept a_isKept a_refused a_hand a_outs a_order0 a_bestOrder a_tells a_bytes a_anew a_values all rv.2 above below_ bytesLong tokenAt tokenLong token value) sz rv.1) 0 0 (va_A (wd_X9_is cI cB cZ a_this a_all a_kept a_isKept a_refused a_hand a_outs a_order0 a_bestOrder a_tells a_bytes a_anew a_values all refused above below_ bytesLong tokenAt tokenLong token value) sz) := by
  refine s_enter_n (cc := cX9_is) (nL := 2) (r := rv.1) (by decide) rfl (Nat.le_of_ble_eq_true rfl) ?_
  intro p e s m args below meth c A Q C0 hend ls hl hS
  have h := hf
  clear hf
  replace hl : lv_has ls 2 [(0, .ref a_this), (1, .int p1)] := hl
  unfold f_X9_is at h
  obtain ⟨hx, hb, hml, hown, hts, hK, hA⟩ := id C0
  refine lv_aload_n hx hb dX9_is_0 rfl (lv_at hl 0 rfl) ?_
  refine lv_iload_n hx hb dX9_is_1 rfl (lv_at hl 1 rfl) ?_
  obtain ⟨q1, hq1, h⟩ := s_bind h
  refine u_calliV (r := q1) (As := [.int p1]) (rest := []) (wc := (wd_X9_isOne cI cB cZ a_this a_all a_kept a_isKept a_refused a_hand a_outs a_order0 a_bestOrder a_tells a_bytes a_anew a_values all above below_ bytesLong tokenAt tokenLong token value)) hx hb hml hown hts hK hA hl hS (c_X9_isOne l D cI cB cZ a_this a_all a_kept a_isKept a_refused a_hand a_outs a_order0 a_bestOrder a_tells a_bytes a_anew a_values all above below_ bytesLong tokenAt tokenLong token value p1 _ _ hq1) (cwV 1 hts gX9_is_X9_isOne rfl rfl rfl (by decide +kernel) ⟨Nat.le_of_ble_eq_true rfl, Nat.le_of_ble_eq_true rfl⟩) 0 rfl rfl [0, 1] rfl rfl rfl rfl (Nat.le_of_ble_eq_true rfl) dX9_is_2 (fun H locs hS => ?_)
  refine lv_if_eq (tgt := 16) hx hb dX9_is_5 (by decide) (fun c2 => ?_) (fun c2 => ?_)
  · replace h := s_yes c2 h
    refine lv_aload_n hx hb dX9_is_16 rfl (lv_at hl 0 rfl) ?_
    refine lv_bipush (v := (-2 : Int32)) hx hb dX9_is_17 (by decide) ?_
    obtain ⟨q3, hq3, h⟩ := s_bind h
    refine r_calliV (r := q3.1) (As := [.int (-2 : Int32)]) (rest := []) (wc := (wd_X9_bad cI cB cZ a_this a_all a_kept a_isKept a_refused a_hand a_outs a_order0 a_bestOrder a_tells a_bytes a_anew a_values refused above below_ bytesLong tokenAt tokenLong token value)) (w1 := (wd_X9_bad cI cB cZ a_this a_all a_kept a_isKept a_refused a_hand a_outs a_order0 a_bestOrder a_tells a_bytes a_anew a_values q3.2 above below_ bytesLong tokenAt tokenLong token value)) (ws' := (wd_X9_is cI cB cZ a_this a_all a_kept a_isKept a_refused a_hand a_outs a_order0 a_bestOrder a_tells a_bytes a_anew a_values all q3.2 above below_ bytesLong tokenAt tokenLong token value)) hx hb hml hown hts hK hA hl hS (c_X9_bad l D cI cB cZ a_this a_all a_kept a_isKept a_refused a_hand a_outs a_order0 a_bestOrder a_tells a_bytes a_anew a_values refused above below_ bytesLong tokenAt tokenLong token value (-2 : Int32) _ _ hq3) (cwV 1 hts gX9_is_X9_bad rfl rfl rfl (by decide +kernel) ⟨Nat.le_of_ble_eq_true rfl, Nat.le_of_ble_eq_true rfl⟩) 0 rfl rfl [0, 2] rfl rfl rfl [.inr 0, .inl 1, .inr 1] rfl rfl rfl rfl (Nat.le_of_ble_eq_true rfl) dX9_is_19 (fun H locs hS => ?_)
    obtain rfl := Option.some.inj h
    exact hend _ _ _ _ dX9_is_22 hS
  replace h := s_no c2 h
  refine lv_aload_n hx hb dX9_is_8 rfl (lv_at hl 0 rfl) ?_
  refine lv_iload_n hx hb dX9_is_9 rfl (lv_at hl 1 rfl) ?_
  obtain ⟨q4, hq4, h⟩ := s_bind h
  refine u_calliV (r := q4) (As := [.int p1]) (rest := []) (wc := (wd_X9_kindsOfOne cI cB cZ a_this a_all a_kept a_isKept a_refused a_hand a_outs a_order0 a_bestOrder a_tells a_bytes a_anew a_values all above below_ bytesLong tokenAt tokenLong token value)) hx hb hml hown hts hK hA hl hS (c_X9_kindsOfOne l D cI cB cZ a_this a_all a_kept a_isKept a_refused a_hand a_outs a_order0 a_bestOrder a_tells a_bytes a_anew a_values all above below_ bytesLong tokenAt tokenLong token value p1 _ _ hq4) (cwV 1 hts gX9_is_X9_kindsOfOne rfl rfl rfl (by decide +kernel) ⟨Nat.le_of_ble_eq_true rfl, Nat.le_of_ble_eq_true rfl⟩) 0 rfl rfl [0, 1] rfl rfl rfl rfl (Nat.le_of_ble_eq_true rfl) dX9_is_10 (fun H locs hS => ?_)
  refine lv_goto (tgt := 22) hx hb dX9_is_13 (by decide) ?_
  obtain rfl := Option.some.inj h
  exact hend _ _ _ _ dX9_is_22 hS

-- InnTurnedModel.look(I)I
def wd_X9_look (cI cB cZ : ClassId) (a_this : Nat) (a_all : Nat) (a_kept : Nat) (a_isKept : Nat) (a_refused : Nat) (a_hand : Nat) (a_outs : Nat) (a_order0 : Nat) (a_bestOrder : Nat) (a_tells : Nat) (a_bytes : Nat) (a_anew : Nat) (a_values : Nat)  (all : (Nat → Int32)) (refused : (Nat → Int32)) (above : Int64) (below_ : Int64) (tells : (Nat → Int32)) (bytesLong : Int32) (tokenAt : Int32) (tokenLong : Int32) (token : Int32) (value : Int32) : va_W := [(a_this, .inr (6, [.ref a_all, .ref a_kept, .ref a_isKept, .ref a_refused, .long above, .long below_, .ref a_hand, .ref a_outs, .ref a_order0, .ref a_bestOrder, .ref a_tells, .ref a_bytes, .int bytesLong, .int tokenAt, .int tokenLong, .int token, .int value, .ref a_anew, .ref a_values])), (a_all, .inl (cI, 250, .inl all)), (a_refused, .inl (cI, 3, .inl refused)), (a_tells, .inl (cI, 6, .inl tells))]
abbrev rm_X9_look : Room := { frames := 2, cells := 0, slots := 0, locals := 51 }
set_option maxRecDepth 20000 in
theorem inX9_X9_look : ∀ w ∈ u_ws RX9 TX9 19, w ∈ wsX9_look := by decide +kernel
def f_X9_look_b132 (k_b30 : (Nat → Int32) → (Nat → Int32) → Int32 → Int32 → Int32 → Int32 → Int32 → Option (Int32 × (Nat → Int32) × (Nat → Int32))) (k_b44 : (Nat → Int32) → (Nat → Int32) → Int32 → Int32 → Int32 → Int32 → Int32 → Int32 → Option (Int32 × (Nat → Int32) × (Nat → Int32)))  (all : (Nat → Int32)) (refused : (Nat → Int32)) (tells : (Nat → Int32)) (l1 : Int32) (l2 : Int32) (l3 : Int32) (l5 : Int32) (l6 : Int32) (t0 : Int32) : Option (Int32 × (Nat → Int32) × (Nat → Int32)) := k_b44 refused tells l1 l2 l3 t0 l5 (l6 + (1 : Int32))
set_option maxHeartbeats 4000000 in
set_option maxRecDepth 100000 in
theorem w_X9_look_b132 {p : Program} {l : Launch} {e : Env} {s : State} {m : MethodId} {args : Array Value} {below : List Frame} {meth : Method} {c : Code} {A : Nat → Prop} {Q : State → Prop} {D : va_G} {cI cB cZ : ClassId} {a_this a_all a_kept a_isKept a_refused a_hand a_outs a_order0 a_bestOrder a_tells a_bytes a_anew a_values : Nat} {all : (Nat → Int32)} {above : Int64} {below_ : Int64} {bytesLong : Int32} {tokenAt : Int32} {tokenLong : Int32} {token : Int32} {value : Int32} (C0 : Cx p s m args c cX9_look 8 RX9 wsX9_look D (s_tys cI cB cZ) A) {rv : Int32 × (Nat → Int32) × (Nat → Int32)} (hend : ∀ (pc : Nat) (H : Heap) (locs : List Loc) (ls : Array Slot), decode cX9_look pc = .ok (.ireturn, 1) → sS D vwCl A s.heap (wd_X9_look cI cB cZ a_this a_all a_kept a_isKept a_refused a_hand a_outs a_order0 a_bestOrder a_tells a_bytes a_anew a_values all rv.2.1 above below_ rv.2.2 bytesLong tokenAt tokenLong token value) H locs → W p l e rm_X9_look s m args below meth c H locs 0 0 Q (F0 m pc ls [.int rv.1])) (k_b30 : (Nat → Int32) → (Nat → Int32) → Int32 → Int32 → Int32 → Int32 → Int32 → Option (Int32 × (Nat → Int32) × (Nat → Int32))) (hk_b30 : ∀ (refused : (Nat → Int32)) (tells : (Nat → Int32)) (l1 : Int32) (l2 : Int32) (l3 : Int32) (l4 : Int32) (l5 : Int32) (H : Heap) (locs : List Loc) (ls : Array Slot), k_b30 refused tells l1 l2 l3 l4 l5 = some rv → sS D vwCl A s.heap (wd_X9_look cI cB cZ a_this a_all a_kept a_isKept a_refused a_hand a_outs a_order0 a_bestOrder a_tells a_bytes a_anew a_values all refused above below_ tells bytesLong tokenAt tokenLong token value) H locs → lv_has ls 8 [(0, .ref a_this), (1, .int l1), (2, .int l2), (3, .int l3), (4, .int l4), (5, .int l5)] → W p l e rm_X9_look s m args below meth c H locs 0 0 Q (F0 m 30 ls [])) (k_b44 : (Nat → Int32) → (Nat → Int32) → Int32 → Int32 → Int32 → Int32 → Int32 → Int32 → Option (Int32 × (Nat → Int32) × (Nat → Int32))) (hk_b44 : ∀ (refused : (Nat → Int32)) (tells : (Nat → Int32)) (l1 : Int32) (l2 : Int32) (l3 : Int32) (l4 : Int32) (l5 : Int32) (l6 : Int32) (H : Heap) (locs : List Loc) (ls : Array Slot), k_b44 refused tells l1 l2 l3 l4 l5 l6 = some rv → sS D vwCl A s.heap (wd_X9_look cI cB cZ a_this a_all a_kept a_isKept a_refused a_hand a_outs a_order0 a_bestOrder a_tells a_bytes a_anew a_values all refused above below_ tells bytesLong tokenAt tokenLong token value) H locs → lv_has ls 8 [(0, .ref a_this), (1, .int l1), (2, .int l2), (3, .int l3), (4, .int l4), (5, .int l5), (6, .int l6)] → W p l e rm_X9_look s m args below meth c H locs 0 0 Q (F0 m 44 ls [])) : ∀ (refused : (Nat → Int32)) (tells : (Nat → Int32)) (l1 : Int32) (l2 : Int32) (l3 : Int32) (l5 : Int32) (l6 : Int32) (t0 : Int32) (H : Heap) (locs : List Loc) (ls : Array Slot), f_X9_look_b132 k_b30 k_b44 all refused tells l1 l2 l3 l5 l6 t0 = some rv → sS D vwCl A s.heap (wd_X9_look cI cB cZ a_this a_all a_kept a_isKept a_refused a_hand a_outs a_order0 a_bestOrder a_tells a_bytes a_anew a_values all refused above below_ tells bytesLong tokenAt tokenLong token value) H locs → lv_has ls 8 [(0, .ref a_this), (1, .int l1), (2, .int l2), (3, .int l3), (5, .int l5), (6, .int l6)] → W p l e rm_X9_look s m args below meth c H locs 0 0 Q (F0 m 132 ls [.int t0]) := by
  obtain ⟨hx, hb, hml, hown, hts, hK, hA⟩ := id C0
  have inX9 : ∀ w ∈ u_ws RX9 TX9 19, w ∈ wsX9_look := inX9_X9_look
  intro refused tells l1 l2 l3 l5 l6 t0 H locs ls h hS hl
  unfold f_X9_look_b132 at h
  refine lv_istore (lv' := [(4, .int t0), (0, .ref a_this), (1, .int l1), (2, .int l2), (3, .int l3), (5, .int l5), (6, .int l6)]) hx hb dX9_look_132 hl (by decide) rfl (fun ls hl => ?_)
  refine lv_iinc (v := (l6 + (1 : Int32))) (lv' := [(6, .int (l6 + (1 : Int32))), (4, .int t0), (0, .ref a_this), (1, .int l1), (2, .int l2), (3, .int l3), (5, .int l5)]) hx hb dX9_look_134 hl (k := 6) rfl rfl (by decide) rfl (fun ls hl => ?_)
  refine lv_goto (tgt := 44) hx hb dX9_look_137 (by decide) ?_
  exact hk_b44 refused tells l1 l2 l3 t0 l5 (l6 + (1 : Int32)) _ _ _ h hS (lv_sub hl [2, 3, 4, 5, 1, 6, 0] rfl)
def f_X9_look_b117 (k_b30 : (Nat → Int32) → (Nat → Int32) → Int32 → Int32 → Int32 → Int32 → Int32 → Option (Int32 × (Nat → Int32) × (Nat → Int32))) (k_b44 : (Nat → Int32) → (Nat → Int32) → Int32 → Int32 → Int32 → Int32 → Int32 → Int32 → Option (Int32 × (Nat → Int32) × (Nat → Int32)))  (all : (Nat → Int32)) (refused : (Nat → Int32)) (tells : (Nat → Int32)) (l1 : Int32) (l2 : Int32) (l4 : Int32) (l5 : Int32) (l6 : Int32) (l7 : Int32) (t0 : Int32) : Option (Int32 × (Nat → Int32) × (Nat → Int32)) := (if l4 ≤ l7 then f_X9_look_b132 k_b30 k_b44 all refused tells l1 l2 t0 l5 l6 l4 else f_X9_look_b132 k_b30 k_b44 all refused tells l1 l2 t0 l5 l6 l7)
set_option maxHeartbeats 4000000 in
set_option maxRecDepth 100000 in
theorem w_X9_look_b117 {p : Program} {l : Launch} {e : Env} {s : State} {m : MethodId} {args : Array Value} {below : List Frame} {meth : Method} {c : Code} {A : Nat → Prop} {Q : State → Prop} {D : va_G} {cI cB cZ : ClassId} {a_this a_all a_kept a_isKept a_refused a_hand a_outs a_order0 a_bestOrder a_tells a_bytes a_anew a_values : Nat} {all : (Nat → Int32)} {above : Int64} {below_ : Int64} {bytesLong : Int32} {tokenAt : Int32} {tokenLong : Int32} {token : Int32} {value : Int32} (C0 : Cx p s m args c cX9_look 8 RX9 wsX9_look D (s_tys cI cB cZ) A) {rv : Int32 × (Nat → Int32) × (Nat → Int32)} (hend : ∀ (pc : Nat) (H : Heap) (locs : List Loc) (ls : Array Slot), decode cX9_look pc = .ok (.ireturn, 1) → sS D vwCl A s.heap (wd_X9_look cI cB cZ a_this a_all a_kept a_isKept a_refused a_hand a_outs a_order0 a_bestOrder a_tells a_bytes a_anew a_values all rv.2.1 above below_ rv.2.2 bytesLong tokenAt tokenLong token value) H locs → W p l e rm_X9_look s m args below meth c H locs 0 0 Q (F0 m pc ls [.int rv.1])) (k_b30 : (Nat → Int32) → (Nat → Int32) → Int32 → Int32 → Int32 → Int32 → Int32 → Option (Int32 × (Nat → Int32) × (Nat → Int32))) (hk_b30 : ∀ (refused : (Nat → Int32)) (tells : (Nat → Int32)) (l1 : Int32) (l2 : Int32) (l3 : Int32) (l4 : Int32) (l5 : Int32) (H : Heap) (locs : List Loc) (ls : Array Slot), k_b30 refused tells l1 l2 l3 l4 l5 = some rv → sS D vwCl A s.heap (wd_X9_look cI cB cZ a_this a_all a_kept a_isKept a_refused a_hand a_outs a_order0 a_bestOrder a_tells a_bytes a_anew a_values all refused above below_ tells bytesLong tokenAt tokenLong token value) H locs → lv_has ls 8 [(0, .ref a_this), (1, .int l1), (2, .int l2), (3, .int l3), (4, .int l4), (5, .int l5)] → W p l e rm_X9_look s m args below meth c H locs 0 0 Q (F0 m 30 ls [])) (k_b44 : (Nat → Int32) → (Nat → Int32) → Int32 → Int32 → Int32 → Int32 → Int32 → Int32 → Option (Int32 × (Nat → Int32) × (Nat → Int32))) (hk_b44 : ∀ (refused : (Nat → Int32)) (tells : (Nat → Int32)) (l1 : Int32) (l2 : Int32) (l3 : Int32) (l4 : Int32) (l5 : Int32) (l6 : Int32) (H : Heap) (locs : List Loc) (ls : Array Slot), k_b44 refused tells l1 l2 l3 l4 l5 l6 = some rv → sS D vwCl A s.heap (wd_X9_look cI cB cZ a_this a_all a_kept a_isKept a_refused a_hand a_outs a_order0 a_bestOrder a_tells a_bytes a_anew a_values all refused above below_ tells bytesLong tokenAt tokenLong token value) H locs → lv_has ls 8 [(0, .ref a_this), (1, .int l1), (2, .int l2), (3, .int l3), (4, .int l4), (5, .int l5), (6, .int l6)] → W p l e rm_X9_look s m args below meth c H locs 0 0 Q (F0 m 44 ls [])) : ∀ (refused : (Nat → Int32)) (tells : (Nat → Int32)) (l1 : Int32) (l2 : Int32) (l4 : Int32) (l5 : Int32) (l6 : Int32) (l7 : Int32) (t0 : Int32) (H : Heap) (locs : List Loc) (ls : Array Slot), f_X9_look_b117 k_b30 k_b44 all refused tells l1 l2 l4 l5 l6 l7 t0 = some rv → sS D vwCl A s.heap (wd_X9_look cI cB cZ a_this a_all a_kept a_isKept a_refused a_hand a_outs a_order0 a_bestOrder a_tells a_bytes a_anew a_values all refused above below_ tells bytesLong tokenAt tokenLong token value) H locs → lv_has ls 8 [(0, .ref a_this), (1, .int l1), (2, .int l2), (4, .int l4), (5, .int l5), (6, .int l6), (7, .int l7)] → W p l e rm_X9_look s m args below meth c H locs 0 0 Q (F0 m 117 ls [.int t0]) := by
  obtain ⟨hx, hb, hml, hown, hts, hK, hA⟩ := id C0
  have inX9 : ∀ w ∈ u_ws RX9 TX9 19, w ∈ wsX9_look := inX9_X9_look
  intro refused tells l1 l2 l4 l5 l6 l7 t0 H locs ls h hS hl
  unfold f_X9_look_b117 at h
  refine lv_istore_n (lv' := [(3, .int t0), (0, .ref a_this), (1, .int l1), (2, .int l2), (4, .int l4), (5, .int l5), (6, .int l6), (7, .int l7)]) hx hb dX9_look_117 rfl hl (by decide) rfl (fun ls hl => ?_)
  refine lv_iload hx hb dX9_look_118 (lv_at hl 7 rfl) ?_
  refine lv_iload hx hb dX9_look_120 (lv_at hl 4 rfl) ?_
  refine lv_icmp_ge (tgt := 130) hx hb dX9_look_122 (by decide) (fun c1 => ?_) (fun c1 => ?_)
  · replace h := s_yes c1 h
    refine lv_iload hx hb dX9_look_130 (lv_at hl 4 rfl) ?_
    exact w_X9_look_b132 C0 hend k_b30 hk_b30 k_b44 hk_b44 refused tells l1 l2 t0 l5 l6 l4 _ _ _ h hS (lv_sub hl [1, 2, 3, 0, 5, 6] rfl)
  replace h := s_no c1 h
  refine lv_iload hx hb dX9_look_125 (lv_at hl 7 rfl) ?_
  refine lv_goto (tgt := 132) hx hb dX9_look_127 (by decide) ?_
  exact w_X9_look_b132 C0 hend k_b30 hk_b30 k_b44 hk_b44 refused tells l1 l2 t0 l5 l6 l7 _ _ _ h hS (lv_sub hl [1, 2, 3, 0, 5, 6] rfl)
def f_X9_look_b54 (k_b30 : (Nat → Int32) → (Nat → Int32) → Int32 → Int32 → Int32 → Int32 → Int32 → Option (Int32 × (Nat → Int32) × (Nat → Int32))) (k_b44 : (Nat → Int32) → (Nat → Int32) → Int32 → Int32 → Int32 → Int32 → Int32 → Int32 → Option (Int32 × (Nat → Int32) × (Nat → Int32)))  (all : (Nat → Int32)) : Nat → (Nat → Int32) → (Nat → Int32) → Int32 → Int32 → Int32 → Int32 → Int32 → Int32 → Int32 → Option (Int32 × (Nat → Int32) × (Nat → Int32))
  | 0, _, _, _, _, _, _, _, _, _ => none
  | fu + 1, refused, tells, l1, l2, l3, l4, l5, l6, l7 => (if (6 : Int32) ≤ l7 then ((f_X9_mostAlike tells l2).bind fun q3 => (if l4 ≤ q3 then f_X9_look_b117 k_b30 k_b44 all refused tells l1 l2 l4 l5 l6 q3 l3 else f_X9_look_b117 k_b30 k_b44 all refused tells l1 l2 l4 l5 l6 q3 (((100 : Int32) * l5) + l6))) else (if ¬ (((5 : Int32) + l1) < 0 ∨ 250 ≤ (Int32.toNatClampNeg ((5 : Int32) + l1))) then ((f_X9_likelyAs l7 (all (Int32.toNatClampNeg ((5 : Int32) + l1))) l5 l6).bind fun q6 => (if ¬ (l7 < 0 ∨ 6 ≤ (Int32.toNatClampNeg l7)) then (f_X9_look_b54 k_b30 k_b44 all fu) refused (upd tells (Int32.toNatClampNeg l7) q6) l1 l2 l3 l4 l5 l6 (l7 + (1 : Int32)) else none)) else none))
set_option maxHeartbeats 4000000 in
set_option maxRecDepth 100000 in
theorem w_X9_look_b54 {p : Program} {l : Launch} {e : Env} {s : State} {m : MethodId} {args : Array Value} {below : List Frame} {meth : Method} {c : Code} {A : Nat → Prop} {Q : State → Prop} {D : va_G} {cI cB cZ : ClassId} {a_this a_all a_kept a_isKept a_refused a_hand a_outs a_order0 a_bestOrder a_tells a_bytes a_anew a_values : Nat} {all : (Nat → Int32)} {above : Int64} {below_ : Int64} {bytesLong : Int32} {tokenAt : Int32} {tokenLong : Int32} {token : Int32} {value : Int32} (C0 : Cx p s m args c cX9_look 8 RX9 wsX9_look D (s_tys cI cB cZ) A) {rv : Int32 × (Nat → Int32) × (Nat → Int32)} (hend : ∀ (pc : Nat) (H : Heap) (locs : List Loc) (ls : Array Slot), decode cX9_look pc = .ok (.ireturn, 1) → sS D vwCl A s.heap (wd_X9_look cI cB cZ a_this a_all a_kept a_isKept a_refused a_hand a_outs a_order0 a_bestOrder a_tells a_bytes a_anew a_values all rv.2.1 above below_ rv.2.2 bytesLong tokenAt tokenLong token value) H locs → W p l e rm_X9_look s m args below meth c H locs 0 0 Q (F0 m pc ls [.int rv.1])) (k_b30 : (Nat → Int32) → (Nat → Int32) → Int32 → Int32 → Int32 → Int32 → Int32 → Option (Int32 × (Nat → Int32) × (Nat → Int32))) (hk_b30 : ∀ (refused : (Nat → Int32)) (tells : (Nat → Int32)) (l1 : Int32) (l2 : Int32) (l3 : Int32) (l4 : Int32) (l5 : Int32) (H : Heap) (locs : List Loc) (ls : Array Slot), k_b30 refused tells l1 l2 l3 l4 l5 = some rv → sS D vwCl A s.heap (wd_X9_look cI cB cZ a_this a_all a_kept a_isKept a_refused a_hand a_outs a_order0 a_bestOrder a_tells a_bytes a_anew a_values all refused above below_ tells bytesLong tokenAt tokenLong token value) H locs → lv_has ls 8 [(0, .ref a_this), (1, .int l1), (2, .int l2), (3, .int l3), (4, .int l4), (5, .int l5)] → W p l e rm_X9_look s m args below meth c H locs 0 0 Q (F0 m 30 ls [])) (k_b44 : (Nat → Int32) → (Nat → Int32) → Int32 → Int32 → Int32 → Int32 → Int32 → Int32 → Option (Int32 × (Nat → Int32) × (Nat → Int32))) (hk_b44 : ∀ (refused : (Nat → Int32)) (tells : (Nat → Int32)) (l1 : Int32) (l2 : Int32) (l3 : Int32) (l4 : Int32) (l5 : Int32) (l6 : Int32) (H : Heap) (locs : List Loc) (ls : Array Slot), k_b44 refused tells l1 l2 l3 l4 l5 l6 = some rv → sS D vwCl A s.heap (wd_X9_look cI cB cZ a_this a_all a_kept a_isKept a_refused a_hand a_outs a_order0 a_bestOrder a_tells a_bytes a_anew a_values all refused above below_ tells bytesLong tokenAt tokenLong token value) H locs → lv_has ls 8 [(0, .ref a_this), (1, .int l1), (2, .int l2), (3, .int l3), (4, .int l4), (5, .int l5), (6, .int l6)] → W p l e rm_X9_look s m args below meth c H locs 0 0 Q (F0 m 44 ls [])) : ∀ (fu : Nat) (refused : (Nat → Int32)) (tells : (Nat → Int32)) (l1 : Int32) (l2 : Int32) (l3 : Int32) (l4 : Int32) (l5 : Int32) (l6 : Int32) (l7 : Int32) (H : Heap) (locs : List Loc) (ls : Array Slot), f_X9_look_b54 k_b30 k_b44 all fu refused tells l1 l2 l3 l4 l5 l6 l7 = some rv → sS D vwCl A s.heap (wd_X9_look cI cB cZ a_this a_all a_kept a_isKept a_refused a_hand a_outs a_order0 a_bestOrder a_tells a_bytes a_anew a_values all refused above below_ tells bytesLong tokenAt tokenLong token value) H locs → lv_has ls 8 [(0, .ref a_this), (1, .int l1), (2, .int l2), (3, .int l3), (4, .int l4), (5, .int l5), (6, .int l6), (7, .int l7)] → W p l e rm_X9_look s m args below meth c H locs 0 0 Q (F0 m 54 ls []) := by
  obtain ⟨hx, hb, hml, hown, hts, hK, hA⟩ := id C0
  have inX9 : ∀ w ∈ u_ws RX9 TX9 19, w ∈ wsX9_look := inX9_X9_look
  intro fu
  induction fu with
  | zero => intro refused tells l1 l2 l3 l4 l5 l6 l7 H locs ls h; cases h
  | succ fu ih =>
    intro refused tells l1 l2 l3 l4 l5 l6 l7 H locs ls h hS hl
    rw [f_X9_look_b54] at h
    refine lv_iload hx hb dX9_look_54 (lv_at hl 7 rfl) ?_
    refine lv_bipush (v := (6 : Int32)) hx hb dX9_look_56 (by decide) ?_
    refine lv_icmp_ge (tgt := 91) hx hb dX9_look_58 (by decide) (fun c2 => ?_) (fun c2 => ?_)
    · replace h := s_yes c2 h
      refine lv_aload_n hx hb dX9_look_91 rfl (lv_at hl 0 rfl) ?_
      refine lv_iload_n hx hb dX9_look_92 rfl (lv_at hl 2 rfl) ?_
      obtain ⟨q3, hq3, h⟩ := s_bind h
      refine u_calliV (r := q3) (As := [.int l2]) (rest := []) (wc := (wd_X9_mostAlike cI cB cZ a_this a_all a_kept a_isKept a_refused a_hand a_outs a_order0 a_bestOrder a_tells a_bytes a_anew a_values above below_ tells bytesLong tokenAt tokenLong token value)) hx hb hml hown hts hK hA hl hS (c_X9_mostAlike l D cI cB cZ a_this a_all a_kept a_isKept a_refused a_hand a_outs a_order0 a_bestOrder a_tells a_bytes a_anew a_values above below_ tells bytesLong tokenAt tokenLong token value l2 _ _ hq3) (cwV 1 hts gX9_look_X9_mostAlike rfl rfl rfl (by decide +kernel) ⟨Nat.le_of_ble_eq_true rfl, Nat.le_of_ble_eq_true rfl⟩) 0 rfl rfl [0, 3] rfl rfl rfl rfl (Nat.le_of_ble_eq_true rfl) dX9_look_93 (fun H locs hS => ?_)
      refine lv_istore (lv' := [(7, .int q3), (0, .ref a_this), (1, .int l1), (2, .int l2), (3, .int l3), (4, .int l4), (5, .int l5), (6, .int l6)]) hx hb dX9_look_96 hl (by decide) rfl (fun ls hl => ?_)
      refine lv_iload hx hb dX9_look_98 (lv_at hl 0 rfl) ?_
      refine lv_iload hx hb dX9_look_100 (lv_at hl 5 rfl) ?_
      refine lv_icmp_ge (tgt := 116) hx hb dX9_look_102 (by decide) (fun c4 => ?_) (fun c4 => ?_)
      · replace h := s_yes c4 h
        refine lv_iload_n hx hb dX9_look_116 rfl (lv_at hl 4 rfl) ?_
        exact w_X9_look_b117 C0 hend k_b30 hk_b30 k_b44 hk_b44 refused tells l1 l2 l4 l5 l6 q3 l3 _ _ _ h hS (lv_sub hl [1, 2, 3, 5, 6, 7, 0] rfl)
      replace h := s_no c4 h
      refine lv_bipush (v := (100 : Int32)) hx hb dX9_look_105 (by decide) ?_
      refine lv_iload hx hb dX9_look_107 (lv_at hl 6 rfl) ?_
      refine lv_imul hx hb dX9_look_109 ?_
      refine lv_iload hx hb dX9_look_110 (lv_at hl 7 rfl) ?_
      refine lv_iadd hx hb dX9_look_112 ?_
      refine lv_goto (tgt := 117) hx hb dX9_look_113 (by decide) ?_
      exact w_X9_look_b117 C0 hend k_b30 hk_b30 k_b44 hk_b44 refused tells l1 l2 l4 l5 l6 q3 (((100 : Int32) * l5) + l6) _ _ _ h hS (lv_sub hl [1, 2, 3, 5, 6, 7, 0] rfl)
    replace h := s_no c2 h
    refine lv_aload_n hx hb dX9_look_61 rfl (lv_at hl 0 rfl) ?_
    refine s_get (C := RX9) (T := TX9) (N := 19) hx hb hts inX9 hown hK hS 0 rfl rfl 10 (by decide) (hts (.fieldLink RX9 39 "InnTurnedModel" "tells" "[I") (List.mem_of_getElem? (i := 2) rfl)) rfl rfl dX9_look_62 ?_
    refine lv_iload hx hb dX9_look_65 (lv_at hl 7 rfl) ?_
    refine lv_iload hx hb dX9_look_67 (lv_at hl 7 rfl) ?_
    refine lv_aload_n hx hb dX9_look_69 rfl (lv_at hl 0 rfl) ?_
    refine s_get (C := RX9) (T := TX9) (N := 19) hx hb hts inX9 hown hK hS 0 rfl rfl 0 (by decide) (hts (.fieldLink RX9 7 "InnTurnedModel" "all" "[I") (List.mem_of_getElem? (i := 3) rfl)) rfl rfl dX9_look_70 ?_
    refine lv_iconst (v := (5 : Int32)) hx hb dX9_look_73 (by decide) ?_
    refine lv_iload_n hx hb dX9_look_74 rfl (lv_at hl 1 rfl) ?_
    refine lv_iadd hx hb dX9_look_75 ?_
    obtain ⟨g5, h⟩ := s_guard h
    refine s_iald hx hb hK hS 1 rfl rfl g5 dX9_look_76 ?_
    refine lv_iload hx hb dX9_look_77 (lv_at hl 5 rfl) ?_
    refine lv_iload hx hb dX9_look_79 (lv_at hl 6 rfl) ?_
    obtain ⟨q6, hq6, h⟩ := s_bind h
    refine u_calliS (r := q6) (As := [.int l7, .int (all (Int32.toNatClampNeg ((5 : Int32) + l1))), .int l5, .int l6]) (rest := [.int l7, .ref a_tells]) (wc := ([] : va_W)) hx hb hml hown hts hK hA hl hS (c_X9_likelyAs l D cI cB cZ l7 (all (Int32.toNatClampNeg ((5 : Int32) + l1))) l5 l6 _ _ hq6) (va_cwS 4 hts gX9_look_X9_likelyAs rfl rfl rfl (by decide +kernel) ⟨Nat.le_of_ble_eq_true rfl, Nat.le_of_ble_eq_true rfl⟩) [] rfl rfl rfl rfl (Nat.le_of_ble_eq_true rfl) dX9_look_81 (fun H locs hS => ?_)
    obtain ⟨g7, h⟩ := s_guard h
    refine s_iast (ws' := (wd_X9_look cI cB cZ a_this a_all a_kept a_isKept a_refused a_hand a_outs a_order0 a_bestOrder a_tells a_bytes a_anew a_values all refused above below_ (upd tells (Int32.toNatClampNeg l7) q6) bytesLong tokenAt tokenLong token value)) hx hb hK hS 3 rfl rfl g7 rfl dX9_look_84 (fun H locs hS => ?_)
    refine lv_iinc (v := (l7 + (1 : Int32))) (lv' := [(7, .int (l7 + (1 : Int32))), (0, .ref a_this), (1, .int l1), (2, .int l2), (3, .int l3), (4, .int l4), (5, .int l5), (6, .int l6)]) hx hb dX9_look_85 hl (k := 7) rfl rfl (by decide) rfl (fun ls hl => ?_)
    refine lv_goto (tgt := 54) hx hb dX9_look_88 (by decide) ?_
    exact ih refused (upd tells (Int32.toNatClampNeg l7) q6) l1 l2 l3 l4 l5 l6 (l7 + (1 : Int32)) _ _ _ h hS (lv_sub hl [1, 2, 3, 4, 5, 6, 7, 0] rfl)
def f_X9_look_b44 (k_b30 : (Nat → Int32) → (Nat → Int32) → Int32 → Int32 → Int32 → Int32 → Int32 → Option (Int32 × (Nat → Int32) × (Nat → Int32)))  (all : (Nat → Int32)) : Nat → (Nat → Int32) → (Nat → Int32) → Int32 → Int32 → Int32 → Int32 → Int32 → Int32 → Option (Int32 × (Nat → Int32) × (Nat → Int32))
  | 0, _, _, _, _, _, _, _, _ => none
  | fu + 1, refused, tells, l1, l2, l3, l4, l5, l6 => (if (7 : Int32) ≤ l6 then k_b30 refused tells l1 l2 l3 l4 (l5 + (1 : Int32)) else f_X9_look_b54 k_b30 (f_X9_look_b44 k_b30 all fu) all s_fuel refused tells l1 l2 l3 l4 l5 l6 (0 : Int32))
set_option maxHeartbeats 4000000 in
set_option maxRecDepth 100000 in
theorem w_X9_look_b44 {p : Program} {l : Launch} {e : Env} {s : State} {m : MethodId} {args : Array Value} {below : List Frame} {meth : Method} {c : Code} {A : Nat → Prop} {Q : State → Prop} {D : va_G} {cI cB cZ : ClassId} {a_this a_all a_kept a_isKept a_refused a_hand a_outs a_order0 a_bestOrder a_tells a_bytes a_anew a_values : Nat} {all : (Nat → Int32)} {above : Int64} {below_ : Int64} {bytesLong : Int32} {tokenAt : Int32} {tokenLong : Int32} {token : Int32} {value : Int32} (C0 : Cx p s m args c cX9_look 8 RX9 wsX9_look D (s_tys cI cB cZ) A) {rv : Int32 × (Nat → Int32) × (Nat → Int32)} (hend : ∀ (pc : Nat) (H : Heap) (locs : List Loc) (ls : Array Slot), decode cX9_look pc = .ok (.ireturn, 1) → sS D vwCl A s.heap (wd_X9_look cI cB cZ a_this a_all a_kept a_isKept a_refused a_hand a_outs a_order0 a_bestOrder a_tells a_bytes a_anew a_values all rv.2.1 above below_ rv.2.2 bytesLong tokenAt tokenLong token value) H locs → W p l e rm_X9_look s m args below meth c H locs 0 0 Q (F0 m pc ls [.int rv.1])) (k_b30 : (Nat → Int32) → (Nat → Int32) → Int32 → Int32 → Int32 → Int32 → Int32 → Option (Int32 × (Nat → Int32) × (Nat → Int32))) (hk_b30 : ∀ (refused : (Nat → Int32)) (tells : (Nat → Int32)) (l1 : Int32) (l2 : Int32) (l3 : Int32) (l4 : Int32) (l5 : Int32) (H : Heap) (locs : List Loc) (ls : Array Slot), k_b30 refused tells l1 l2 l3 l4 l5 = some rv → sS D vwCl A s.heap (wd_X9_look cI cB cZ a_this a_all a_kept a_isKept a_refused a_hand a_outs a_order0 a_bestOrder a_tells a_bytes a_anew a_values all refused above below_ tells bytesLong tokenAt tokenLong token value) H locs → lv_has ls 8 [(0, .ref a_this), (1, .int l1), (2, .int l2), (3, .int l3), (4, .int l4), (5, .int l5)] → W p l e rm_X9_look s m args below meth c H locs 0 0 Q (F0 m 30 ls [])) : ∀ (fu : Nat) (refused : (Nat → Int32)) (tells : (Nat → Int32)) (l1 : Int32) (l2 : Int32) (l3 : Int32) (l4 : Int32) (l5 : Int32) (l6 : Int32) (H : Heap) (locs : List Loc) (ls : Array Slot), f_X9_look_b44 k_b30 all fu refused tells l1 l2 l3 l4 l5 l6 = some rv → sS D vwCl A s.heap (wd_X9_look cI cB cZ a_this a_all a_kept a_isKept a_refused a_hand a_outs a_order0 a_bestOrder a_tells a_bytes a_anew a_values all refused above below_ tells bytesLong tokenAt tokenLong token value) H locs → lv_has ls 8 [(0, .ref a_this), (1, .int l1), (2, .int l2), (3, .int l3), (4, .int l4), (5, .int l5), (6, .int l6)] → W p l e rm_X9_look s m args below meth c H locs 0 0 Q (F0 m 44 ls []) := by
  obtain ⟨hx, hb, hml, hown, hts, hK, hA⟩ := id C0
  have inX9 : ∀ w ∈ u_ws RX9 TX9 19, w ∈ wsX9_look := inX9_X9_look
  intro fu
  induction fu with
  | zero => intro refused tells l1 l2 l3 l4 l5 l6 H locs ls h; cases h
  | succ fu ih =>
    intro refused tells l1 l2 l3 l4 l5 l6 H locs ls h hS hl
    rw [f_X9_look_b44] at h
    refine lv_iload hx hb dX9_look_44 (lv_at hl 6 rfl) ?_
    refine lv_bipush (v := (7 : Int32)) hx hb dX9_look_46 (by decide) ?_
    refine lv_icmp_ge (tgt := 140) hx hb dX9_look_48 (by decide) (fun c8 => ?_) (fun c8 => ?_)
    · replace h := s_yes c8 h
      refine lv_iinc (v := (l5 + (1 : Int32))) (lv' := [(5, .int (l5 + (1 : Int32))), (0, .ref a_this), (1, .int l1), (2, .int l2), (3, .int l3), (4, .int l4), (6, .int l6)]) hx hb dX9_look_140 hl (k := 5) rfl rfl (by decide) rfl (fun ls hl => ?_)
      refine lv_goto (tgt := 30) hx hb dX9_look_143 (by decide) ?_
      exact hk_b30 refused tells l1 l2 l3 l4 (l5 + (1 : Int32)) _ _ _ h hS (lv_sub hl [1, 2, 3, 4, 5, 0] rfl)
    replace h := s_no c8 h
    refine lv_iconst (v := (0 : Int32)) hx hb dX9_look_51 (by decide) ?_
    refine lv_istore (lv' := [(7, .int (0 : Int32)), (0, .ref a_this), (1, .int l1), (2, .int l2), (3, .int l3), (4, .int l4), (5, .int l5), (6, .int l6)]) hx hb dX9_look_52 hl (by decide) rfl (fun ls hl => ?_)
    exact w_X9_look_b54 C0 hend k_b30 hk_b30 (f_X9_look_b44 k_b30 all fu) ih s_fuel refused tells l1 l2 l3 l4 l5 l6 (0 : Int32) _ _ _ h hS (lv_sub hl [1, 2, 3, 4, 5, 6, 7, 0] rfl)
def f_X9_look_b30  (all : (Nat → Int32)) : Nat → (Nat → Int32) → (Nat → Int32) → Int32 → Int32 → Int32 → Int32 → Int32 → Option (Int32 × (Nat → Int32) × (Nat → Int32))
  | 0, _, _, _, _, _, _, _ => none
  | fu + 1, refused, tells, l1, l2, l3, l4, l5 => (if (10 : Int32) ≤ l5 then some (l3, refused, tells) else (if l2 ≤ 0 then some (l3, refused, tells) else f_X9_look_b44 (f_X9_look_b30 all fu) all s_fuel refused tells l1 l2 l3 l4 l5 (0 : Int32)))
set_option maxHeartbeats 4000000 in
set_option maxRecDepth 100000 in
theorem w_X9_look_b30 {p : Program} {l : Launch} {e : Env} {s : State} {m : MethodId} {args : Array Value} {below : List Frame} {meth : Method} {c : Code} {A : Nat → Prop} {Q : State → Prop} {D : va_G} {cI cB cZ : ClassId} {a_this a_all a_kept a_isKept a_refused a_hand a_outs a_order0 a_bestOrder a_tells a_bytes a_anew a_values : Nat} {all : (Nat → Int32)} {above : Int64} {below_ : Int64} {bytesLong : Int32} {tokenAt : Int32} {tokenLong : Int32} {token : Int32} {value : Int32} (C0 : Cx p s m args c cX9_look 8 RX9 wsX9_look D (s_tys cI cB cZ) A) {rv : Int32 × (Nat → Int32) × (Nat → Int32)} (hend : ∀ (pc : Nat) (H : Heap) (locs : List Loc) (ls : Array Slot), decode cX9_look pc = .ok (.ireturn, 1) → sS D vwCl A s.heap (wd_X9_look cI cB cZ a_this a_all a_kept a_isKept a_refused a_hand a_outs a_order0 a_bestOrder a_tells a_bytes a_anew a_values all rv.2.1 above below_ rv.2.2 bytesLong tokenAt tokenLong token value) H locs → W p l e rm_X9_look s m args below meth c H locs 0 0 Q (F0 m pc ls [.int rv.1])) : ∀ (fu : Nat) (refused : (Nat → Int32)) (tells : (Nat → Int32)) (l1 : Int32) (l2 : Int32) (l3 : Int32) (l4 : Int32) (l5 : Int32) (H : Heap) (locs : List Loc) (ls : Array Slot), f_X9_look_b30 all fu refused tells l1 l2 l3 l4 l5 = some rv → sS D vwCl A s.heap (wd_X9_look cI cB cZ a_this a_all a_kept a_isKept a_refused a_hand a_outs a_order0 a_bestOrder a_tells a_bytes a_anew a_values all refused above below_ tells bytesLong tokenAt tokenLong token value) H locs → lv_has ls 8 [(0, .ref a_this), (1, .int l1), (2, .int l2), (3, .int l3), (4, .int l4), (5, .int l5)] → W p l e rm_X9_look s m args below meth c H locs 0 0 Q (F0 m 30 ls []) := by
  obtain ⟨hx, hb, hml, hown, hts, hK, hA⟩ := id C0
  have inX9 : ∀ w ∈ u_ws RX9 TX9 19, w ∈ wsX9_look := inX9_X9_look
  intro fu
  induction fu with
  | zero => intro refused tells l1 l2 l3 l4 l5 H locs ls h; cases h
  | succ fu ih =>
    intro refused tells l1 l2 l3 l4 l5 H locs ls h hS hl
    rw [f_X9_look_b30] at h
    refine lv_iload hx hb dX9_look_30 (lv_at hl 5 rfl) ?_
    refine lv_bipush (v := (10 : Int32)) hx hb dX9_look_32 (by decide) ?_
    refine lv_icmp_ge (tgt := 146) hx hb dX9_look_34 (by decide) (fun c9 => ?_) (fun c9 => ?_)
    · replace h := s_yes c9 h
      refine lv_iload_n hx hb dX9_look_146 rfl (lv_at hl 3 rfl) ?_
      obtain rfl := Option.some.inj h
      exact hend _ _ _ _ dX9_look_147 hS
    replace h := s_no c9 h
    refine lv_iload_n hx hb dX9_look_37 rfl (lv_at hl 2 rfl) ?_
    refine lv_if_le (tgt := 146) hx hb dX9_look_38 (by decide) (fun c10 => ?_) (fun c10 => ?_)
    · replace h := s_yes c10 h
      refine lv_iload_n hx hb dX9_look_146 rfl (lv_at hl 3 rfl) ?_
      obtain rfl := Option.some.inj h
      exact hend _ _ _ _ dX9_look_147 hS
    replace h := s_no c10 h
    refine lv_iconst (v := (0 : Int32)) hx hb dX9_look_41 (by decide) ?_
    refine lv_istore (lv' := [(6, .int (0 : Int32)), (0, .ref a_this), (1, .int l1), (2, .int l2), (3, .int l3), (4, .int l4), (5, .int l5)]) hx hb dX9_look_42 hl (by decide) rfl (fun ls hl => ?_)
    exact w_X9_look_b44 C0 hend (f_X9_look_b30 all fu) ih s_fuel refused tells l1 l2 l3 l4 l5 (0 : Int32) _ _ _ h hS (lv_sub hl [1, 2, 3, 4, 5, 6, 0] rfl)
def f_X9_look  (all : (Nat → Int32)) (refused : (Nat → Int32)) (tells : (Nat → Int32)) (p1 : Int32) : Option (Int32 × (Nat → Int32) × (Nat → Int32)) := ((f_X9_isOne all p1).bind fun q11 => (if q11 = 0 then ((f_X9_bad refused (-2 : Int32)).bind fun q14 => some (q14.1, q14.2, tells)) else ((f_X9_kindsOfOne all p1).bind fun q13 => f_X9_look_b30  all s_fuel refused tells p1 q13 (-1 : Int32) (1000000 : Int32) (0 : Int32))))
set_option maxHeartbeats 4000000 in
set_option maxRecDepth 100000 in
theorem c_X9_look (l : Launch) (D : va_G) (cI cB cZ : ClassId) (a_this : Nat) (a_all : Nat) (a_kept : Nat) (a_isKept : Nat) (a_refused : Nat) (a_hand : Nat) (a_outs : Nat) (a_order0 : Nat) (a_bestOrder : Nat) (a_tells : Nat) (a_bytes : Nat) (a_anew : Nat) (a_values : Nat) (all : (Nat → Int32)) (refused : (Nat → Int32)) (above : Int64) (below_ : Int64) (tells : (Nat → Int32)) (bytesLong : Int32) (tokenAt : Int32) (tokenLong : Int32) (token : Int32) (value : Int32) (p1 : Int32) (rv : Int32 × (Nat → Int32) × (Nat → Int32)) (sz : Nat) (hf : f_X9_look all refused tells p1 = some rv) : Met l yX9_look wsX9_look rm_X9_look (sPc D vwCl (s_tys cI cB cZ) [.ref a_this, .int p1] (wd_X9_look cI cB cZ a_this a_all a_kept a_isKept a_refused a_hand a_outs a_order0 a_bestOrder a_tells a_bytes a_anew a_values all refused above below_ tells bytesLong tokenAt tokenLong token value) sz) (sQi D vwCl (wd_X9_look cI cB cZ a_this a_all a_kept a_isKept a_refused a_hand a_outs a_order0 a_bestOrder a_tells a_bytes a_anew a_values all refused above below_ tells bytesLong tokenAt tokenLong token value) (wd_X9_look cI cB cZ a_this a_all a_kept a_isKept a_refused a_hand a_outs a_order0 a_bestOrder a_tells a_bytes a_anew a_values all rv.2.1 above below_ rv.2.2 bytesLong tokenAt tokenLong token value) sz rv.1) 0 0 (va_A (wd_X9_look cI cB cZ a_this a_all a_kept a_isKept a_refused a_hand a_outs a_order0 a_bestOrder a_tells a_bytes a_anew a_values all refused above below_ tells bytesLong tokenAt tokenLong token value) sz) := by
  refine s_enter_n (cc := cX9_look) (nL := 8) (r := rv.1) (by decide) rfl (Nat.le_of_ble_eq_true rfl) ?_
  intro p e s m args below meth c A Q C0 hend ls hl hS
  have h := hf
  clear hf
  replace hl : lv_has ls 8 [(0, .ref a_this), (1, .int p1)] := hl
  unfold f_X9_look at h
  obtain ⟨hx, hb, hml, hown, hts, hK, hA⟩ := id C0
  have inX9 : ∀ w ∈ u_ws RX9 TX9 19, w ∈ wsX9_look := inX9_X9_look
  refine lv_aload_n hx hb dX9_look_0 rfl (lv_at hl 0 rfl) ?_
  refine lv_iload_n hx hb dX9_look_1 rfl (lv_at hl 1 rfl) ?_
  obtain ⟨q11, hq11, h⟩ := s_bind h
  refine u_calliV (r := q11) (As := [.int p1]) (rest := []) (wc := (wd_X9_isOne cI cB cZ a_this a_all a_kept a_isKept a_refused a_hand a_outs a_order0 a_bestOrder a_tells a_bytes a_anew a_values all above below_ bytesLong tokenAt tokenLong token value)) hx hb hml hown hts hK hA hl hS (c_X9_isOne l D cI cB cZ a_this a_all a_kept a_isKept a_refused a_hand a_outs a_order0 a_bestOrder a_tells a_bytes a_anew a_values all above below_ bytesLong tokenAt tokenLong token value p1 _ _ hq11) (cwV 1 hts gX9_look_X9_isOne rfl rfl rfl (by decide +kernel) ⟨Nat.le_of_ble_eq_true rfl, Nat.le_of_ble_eq_true rfl⟩) 0 rfl rfl [0, 1] rfl rfl rfl rfl (Nat.le_of_ble_eq_true rfl) dX9_look_2 (fun H locs hS => ?_)
  refine lv_if_ne (tgt := 15) hx hb dX9_look_5 (by decide) (fun c12 => ?_) (fun c12 => ?_)
  · replace h := s_no c12 h
    refine lv_aload_n hx hb dX9_look_15 rfl (lv_at hl 0 rfl) ?_
    refine lv_iload_n hx hb dX9_look_16 rfl (lv_at hl 1 rfl) ?_
    obtain ⟨q13, hq13, h⟩ := s_bind h
    refine u_calliV (r := q13) (As := [.int p1]) (rest := []) (wc := (wd_X9_kindsOfOne cI cB cZ a_this a_all a_kept a_isKept a_refused a_hand a_outs a_order0 a_bestOrder a_tells a_bytes a_anew a_values all above below_ bytesLong tokenAt tokenLong token value)) hx hb hml hown hts hK hA hl hS (c_X9_kindsOfOne l D cI cB cZ a_this a_all a_kept a_isKept a_refused a_hand a_outs a_order0 a_bestOrder a_tells a_bytes a_anew a_values all above below_ bytesLong tokenAt tokenLong token value p1 _ _ hq13) (cwV 1 hts gX9_look_X9_kindsOfOne rfl rfl rfl (by decide +kernel) ⟨Nat.le_of_ble_eq_true rfl, Nat.le_of_ble_eq_true rfl⟩) 0 rfl rfl [0, 1] rfl rfl rfl rfl (Nat.le_of_ble_eq_true rfl) dX9_look_17 (fun H locs hS => ?_)
    refine lv_istore_n (lv' := [(2, .int q13), (0, .ref a_this), (1, .int p1)]) hx hb dX9_look_20 rfl hl (by decide) rfl (fun ls hl => ?_)
    refine lv_iconst (v := (-1 : Int32)) hx hb dX9_look_21 (by decide) ?_
    refine lv_istore_n (lv' := [(3, .int (-1 : Int32)), (2, .int q13), (0, .ref a_this), (1, .int p1)]) hx hb dX9_look_22 rfl hl (by decide) rfl (fun ls hl => ?_)
    refine lv_ldc (v := (1000000 : Int32)) hx hb hown (hts (.constant RX9 172 (1000000)) (List.mem_of_getElem? (i := 1) rfl)) dX9_look_23 ?_
    refine lv_istore (lv' := [(4, .int (1000000 : Int32)), (3, .int (-1 : Int32)), (2, .int q13), (0, .ref a_this), (1, .int p1)]) hx hb dX9_look_25 hl (by decide) rfl (fun ls hl => ?_)
    refine lv_iconst (v := (0 : Int32)) hx hb dX9_look_27 (by decide) ?_
    refine lv_istore (lv' := [(5, .int (0 : Int32)), (4, .int (1000000 : Int32)), (3, .int (-1 : Int32)), (2, .int q13), (0, .ref a_this), (1, .int p1)]) hx hb dX9_look_28 hl (by decide) rfl (fun ls hl => ?_)
    exact w_X9_look_b30 C0 hend  s_fuel refused tells p1 q13 (-1 : Int32) (1000000 : Int32) (0 : Int32) _ _ _ h hS (lv_sub hl [4, 5, 3, 2, 1, 0] rfl)
  replace h := s_yes c12 h
  refine lv_aload_n hx hb dX9_look_8 rfl (lv_at hl 0 rfl) ?_
  refine lv_bipush (v := (-2 : Int32)) hx hb dX9_look_9 (by decide) ?_
  obtain ⟨q14, hq14, h⟩ := s_bind h
  refine r_calliV (r := q14.1) (As := [.int (-2 : Int32)]) (rest := []) (wc := (wd_X9_bad cI cB cZ a_this a_all a_kept a_isKept a_refused a_hand a_outs a_order0 a_bestOrder a_tells a_bytes a_anew a_values refused above below_ bytesLong tokenAt tokenLong token value)) (w1 := (wd_X9_bad cI cB cZ a_this a_all a_kept a_isKept a_refused a_hand a_outs a_order0 a_bestOrder a_tells a_bytes a_anew a_values q14.2 above below_ bytesLong tokenAt tokenLong token value)) (ws' := (wd_X9_look cI cB cZ a_this a_all a_kept a_isKept a_refused a_hand a_outs a_order0 a_bestOrder a_tells a_bytes a_anew a_values all q14.2 above below_ tells bytesLong tokenAt tokenLong token value)) hx hb hml hown hts hK hA hl hS (c_X9_bad l D cI cB cZ a_this a_all a_kept a_isKept a_refused a_hand a_outs a_order0 a_bestOrder a_tells a_bytes a_anew a_values refused above below_ bytesLong tokenAt tokenLong token value (-2 : Int32) _ _ hq14) (cwV 1 hts gX9_look_X9_bad rfl rfl rfl (by decide +kernel) ⟨Nat.le_of_ble_eq_true rfl, Nat.le_of_ble_eq_true rfl⟩) 0 rfl rfl [0, 2] rfl rfl rfl [.inr 0, .inl 1, .inr 1, .inl 3] rfl rfl rfl rfl (Nat.le_of_ble_eq_true rfl) dX9_look_11 (fun H locs hS => ?_)
  obtain rfl := Option.some.inj h
  exact hend _ _ _ _ dX9_look_14 hS

-- InnTurnedModel.kinds()I
def wd_X9_kinds (cI cB cZ : ClassId) (a_this : Nat) (a_all : Nat) (a_kept : Nat) (a_isKept : Nat) (a_refused : Nat) (a_hand : Nat) (a_outs : Nat) (a_order0 : Nat) (a_bestOrder : Nat) (a_tells : Nat) (a_bytes : Nat) (a_anew : Nat) (a_values : Nat)  (all : (Nat → Int32)) (above : Int64) (below_ : Int64) (bytesLong : Int32) (tokenAt : Int32) (tokenLong : Int32) (token : Int32) (value : Int32) : va_W := [(a_this, .inr (6, [.ref a_all, .ref a_kept, .ref a_isKept, .ref a_refused, .long above, .long below_, .ref a_hand, .ref a_outs, .ref a_order0, .ref a_bestOrder, .ref a_tells, .ref a_bytes, .int bytesLong, .int tokenAt, .int tokenLong, .int token, .int value, .ref a_anew, .ref a_values])), (a_all, .inl (cI, 250, .inl all))]
abbrev rm_X9_kinds : Room := { frames := 2, cells := 0, slots := 0, locals := 49 }
def f_X9_kinds  (all : (Nat → Int32))  : Option (Int32) := ((f_X9_kindsOfLord all).bind fun q1 => some (q1))
set_option maxHeartbeats 4000000 in
set_option maxRecDepth 100000 in
theorem c_X9_kinds (l : Launch) (D : va_G) (cI cB cZ : ClassId) (a_this : Nat) (a_all : Nat) (a_kept : Nat) (a_isKept : Nat) (a_refused : Nat) (a_hand : Nat) (a_outs : Nat) (a_order0 : Nat) (a_bestOrder : Nat) (a_tells : Nat) (a_bytes : Nat) (a_anew : Nat) (a_values : Nat) (all : (Nat → Int32)) (above : Int64) (below_ : Int64) (bytesLong : Int32) (tokenAt : Int32) (tokenLong : Int32) (token : Int32) (value : Int32) (rv : Int32) (sz : Nat) (hf : f_X9_kinds all = some rv) : Met l yX9_kinds wsX9_kinds rm_X9_kinds (sPc D vwCl (s_tys cI cB cZ) [.ref a_this] (wd_X9_kinds cI cB cZ a_this a_all a_kept a_isKept a_refused a_hand a_outs a_order0 a_bestOrder a_tells a_bytes a_anew a_values all above below_ bytesLong tokenAt tokenLong token value) sz) (sQi D vwCl (wd_X9_kinds cI cB cZ a_this a_all a_kept a_isKept a_refused a_hand a_outs a_order0 a_bestOrder a_tells a_bytes a_anew a_values all above below_ bytesLong tokenAt tokenLong token value) (wd_X9_kinds cI cB cZ a_this a_all a_kept a_isKept a_refused a_hand a_outs a_order0 a_bestOrder a_tells a_bytes a_anew a_values all above below_ bytesLong tokenAt tokenLong token value) sz rv) 0 0 (va_A (wd_X9_kinds cI cB cZ a_this a_all a_kept a_isKept a_refused a_hand a_outs a_order0 a_bestOrder a_tells a_bytes a_anew a_values all above below_ bytesLong tokenAt tokenLong token value) sz) := by
  refine s_enter_n (cc := cX9_kinds) (nL := 1) (r := rv) (by decide) rfl (Nat.le_of_ble_eq_true rfl) ?_
  intro p e s m args below meth c A Q C0 hend ls hl hS
  have h := hf
  clear hf
  replace hl : lv_has ls 1 [(0, .ref a_this)] := hl
  unfold f_X9_kinds at h
  obtain ⟨hx, hb, hml, hown, hts, hK, hA⟩ := id C0
  refine lv_aload_n hx hb dX9_kinds_0 rfl (lv_at hl 0 rfl) ?_
  obtain ⟨q1, hq1, h⟩ := s_bind h
  refine u_calliV (r := q1) (As := []) (rest := []) (wc := (wd_X9_kindsOfLord cI cB cZ a_this a_all a_kept a_isKept a_refused a_hand a_outs a_order0 a_bestOrder a_tells a_bytes a_anew a_values all above below_ bytesLong tokenAt tokenLong token value)) hx hb hml hown hts hK hA hl hS (c_X9_kindsOfLord l D cI cB cZ a_this a_all a_kept a_isKept a_refused a_hand a_outs a_order0 a_bestOrder a_tells a_bytes a_anew a_values all above below_ bytesLong tokenAt tokenLong token value _ _ hq1) (cwV 0 hts gX9_kinds_X9_kindsOfLord rfl rfl rfl (by decide +kernel) ⟨Nat.le_of_ble_eq_true rfl, Nat.le_of_ble_eq_true rfl⟩) 0 rfl rfl [0, 1] rfl rfl rfl rfl (Nat.le_of_ble_eq_true rfl) dX9_kinds_1 (fun H locs hS => ?_)
  obtain rfl := Option.some.inj h
  exact hend _ _ _ _ dX9_kinds_4 hS

-- InnTurnedModel.ask()I
def wd_X9_ask (cI cB cZ : ClassId) (a_this : Nat) (a_all : Nat) (a_kept : Nat) (a_isKept : Nat) (a_refused : Nat) (a_hand : Nat) (a_outs : Nat) (a_order0 : Nat) (a_bestOrder : Nat) (a_tells : Nat) (a_bytes : Nat) (a_anew : Nat) (a_values : Nat)  (all : (Nat → Int32)) (above : Int64) (below_ : Int64) (tells : (Nat → Int32)) (bytesLong : Int32) (tokenAt : Int32) (tokenLong : Int32) (token : Int32) (value : Int32) : va_W := [(a_this, .inr (6, [.ref a_all, .ref a_kept, .ref a_isKept, .ref a_refused, .long above, .long below_, .ref a_hand, .ref a_outs, .ref a_order0, .ref a_bestOrder, .ref a_tells, .ref a_bytes, .int bytesLong, .int tokenAt, .int tokenLong, .int token, .int value, .ref a_anew, .ref a_values])), (a_all, .inl (cI, 250, .inl all)), (a_tells, .inl (cI, 6, .inl tells))]
abbrev rm_X9_ask : Room := { frames := 2, cells := 0, slots := 0, locals := 49 }
set_option maxRecDepth 20000 in
theorem inX9_X9_ask : ∀ w ∈ u_ws RX9 TX9 19, w ∈ wsX9_ask := by decide +kernel
def f_X9_ask_b103 (k_b13 : (Nat → Int32) → Int32 → Int32 → Int32 → Int32 → Option (Int32 × (Nat → Int32))) (k_b26 : (Nat → Int32) → Int32 → Int32 → Int32 → Int32 → Int32 → Option (Int32 × (Nat → Int32)))  (all : (Nat → Int32)) (tells : (Nat → Int32)) (l1 : Int32) (l2 : Int32) (l4 : Int32) (l5 : Int32) (t0 : Int32) : Option (Int32 × (Nat → Int32)) := k_b26 tells l1 l2 t0 l4 (l5 + (1 : Int32))
set_option maxHeartbeats 4000000 in
set_option maxRecDepth 100000 in
theorem w_X9_ask_b103 {p : Program} {l : Launch} {e : Env} {s : State} {m : MethodId} {args : Array Value} {below : List Frame} {meth : Method} {c : Code} {A : Nat → Prop} {Q : State → Prop} {D : va_G} {cI cB cZ : ClassId} {a_this a_all a_kept a_isKept a_refused a_hand a_outs a_order0 a_bestOrder a_tells a_bytes a_anew a_values : Nat} {all : (Nat → Int32)} {above : Int64} {below_ : Int64} {bytesLong : Int32} {tokenAt : Int32} {tokenLong : Int32} {token : Int32} {value : Int32} (C0 : Cx p s m args c cX9_ask 7 RX9 wsX9_ask D (s_tys cI cB cZ) A) {rv : Int32 × (Nat → Int32)} (hend : ∀ (pc : Nat) (H : Heap) (locs : List Loc) (ls : Array Slot), decode cX9_ask pc = .ok (.ireturn, 1) → sS D vwCl A s.heap (wd_X9_ask cI cB cZ a_this a_all a_kept a_isKept a_refused a_hand a_outs a_order0 a_bestOrder a_tells a_bytes a_anew a_values all above below_ rv.2 bytesLong tokenAt tokenLong token value) H locs → W p l e rm_X9_ask s m args below meth c H locs 0 0 Q (F0 m pc ls [.int rv.1])) (k_b13 : (Nat → Int32) → Int32 → Int32 → Int32 → Int32 → Option (Int32 × (Nat → Int32))) (hk_b13 : ∀ (tells : (Nat → Int32)) (l1 : Int32) (l2 : Int32) (l3 : Int32) (l4 : Int32) (H : Heap) (locs : List Loc) (ls : Array Slot), k_b13 tells l1 l2 l3 l4 = some rv → sS D vwCl A s.heap (wd_X9_ask cI cB cZ a_this a_all a_kept a_isKept a_refused a_hand a_outs a_order0 a_bestOrder a_tells a_bytes a_anew a_values all above below_ tells bytesLong tokenAt tokenLong token value) H locs → lv_has ls 7 [(0, .ref a_this), (1, .int l1), (2, .int l2), (3, .int l3), (4, .int l4)] → W p l e rm_X9_ask s m args below meth c H locs 0 0 Q (F0 m 13 ls [])) (k_b26 : (Nat → Int32) → Int32 → Int32 → Int32 → Int32 → Int32 → Option (Int32 × (Nat → Int32))) (hk_b26 : ∀ (tells : (Nat → Int32)) (l1 : Int32) (l2 : Int32) (l3 : Int32) (l4 : Int32) (l5 : Int32) (H : Heap) (locs : List Loc) (ls : Array Slot), k_b26 tells l1 l2 l3 l4 l5 = some rv → sS D vwCl A s.heap (wd_X9_ask cI cB cZ a_this a_all a_kept a_isKept a_refused a_hand a_outs a_order0 a_bestOrder a_tells a_bytes a_anew a_values all above below_ tells bytesLong tokenAt tokenLong token value) H locs → lv_has ls 7 [(0, .ref a_this), (1, .int l1), (2, .int l2), (3, .int l3), (4, .int l4), (5, .int l5)] → W p l e rm_X9_ask s m args below meth c H locs 0 0 Q (F0 m 26 ls [])) : ∀ (tells : (Nat → Int32)) (l1 : Int32) (l2 : Int32) (l4 : Int32) (l5 : Int32) (t0 : Int32) (H : Heap) (locs : List Loc) (ls : Array Slot), f_X9_ask_b103 k_b13 k_b26 all tells l1 l2 l4 l5 t0 = some rv → sS D vwCl A s.heap (wd_X9_ask cI cB cZ a_this a_all a_kept a_isKept a_refused a_hand a_outs a_order0 a_bestOrder a_tells a_bytes a_anew a_values all above below_ tells bytesLong tokenAt tokenLong token value) H locs → lv_has ls 7 [(0, .ref a_this), (1, .int l1), (2, .int l2), (4, .int l4), (5, .int l5)] → W p l e rm_X9_ask s m args below meth c H locs 0 0 Q (F0 m 103 ls [.int t0]) := by
  obtain ⟨hx, hb, hml, hown, hts, hK, hA⟩ := id C0
  have inX9 : ∀ w ∈ u_ws RX9 TX9 19, w ∈ wsX9_ask := inX9_X9_ask
  intro tells l1 l2 l4 l5 t0 H locs ls h hS hl
  unfold f_X9_ask_b103 at h
  refine lv_istore_n (lv' := [(3, .int t0), (0, .ref a_this), (1, .int l1), (2, .int l2), (4, .int l4), (5, .int l5)]) hx hb dX9_ask_103 rfl hl (by decide) rfl (fun ls hl => ?_)
  refine lv_iinc (v := (l5 + (1 : Int32))) (lv' := [(5, .int (l5 + (1 : Int32))), (3, .int t0), (0, .ref a_this), (1, .int l1), (2, .int l2), (4, .int l4)]) hx hb dX9_ask_104 hl (k := 5) rfl rfl (by decide) rfl (fun ls hl => ?_)
  refine lv_goto (tgt := 26) hx hb dX9_ask_107 (by decide) ?_
  exact hk_b26 tells l1 l2 t0 l4 (l5 + (1 : Int32)) _ _ _ h hS (lv_sub hl [2, 3, 4, 1, 5, 0] rfl)
def f_X9_ask_b90 (k_b13 : (Nat → Int32) → Int32 → Int32 → Int32 → Int32 → Option (Int32 × (Nat → Int32))) (k_b26 : (Nat → Int32) → Int32 → Int32 → Int32 → Int32 → Int32 → Option (Int32 × (Nat → Int32)))  (all : (Nat → Int32)) (tells : (Nat → Int32)) (l1 : Int32) (l3 : Int32) (l4 : Int32) (l5 : Int32) (l6 : Int32) (t0 : Int32) : Option (Int32 × (Nat → Int32)) := (if l3 ≤ l6 then f_X9_ask_b103 k_b13 k_b26 all tells l1 t0 l4 l5 l3 else f_X9_ask_b103 k_b13 k_b26 all tells l1 t0 l4 l5 l6)
set_option maxHeartbeats 4000000 in
set_option maxRecDepth 100000 in
theorem w_X9_ask_b90 {p : Program} {l : Launch} {e : Env} {s : State} {m : MethodId} {args : Array Value} {below : List Frame} {meth : Method} {c : Code} {A : Nat → Prop} {Q : State → Prop} {D : va_G} {cI cB cZ : ClassId} {a_this a_all a_kept a_isKept a_refused a_hand a_outs a_order0 a_bestOrder a_tells a_bytes a_anew a_values : Nat} {all : (Nat → Int32)} {above : Int64} {below_ : Int64} {bytesLong : Int32} {tokenAt : Int32} {tokenLong : Int32} {token : Int32} {value : Int32} (C0 : Cx p s m args c cX9_ask 7 RX9 wsX9_ask D (s_tys cI cB cZ) A) {rv : Int32 × (Nat → Int32)} (hend : ∀ (pc : Nat) (H : Heap) (locs : List Loc) (ls : Array Slot), decode cX9_ask pc = .ok (.ireturn, 1) → sS D vwCl A s.heap (wd_X9_ask cI cB cZ a_this a_all a_kept a_isKept a_refused a_hand a_outs a_order0 a_bestOrder a_tells a_bytes a_anew a_values all above below_ rv.2 bytesLong tokenAt tokenLong token value) H locs → W p l e rm_X9_ask s m args below meth c H locs 0 0 Q (F0 m pc ls [.int rv.1])) (k_b13 : (Nat → Int32) → Int32 → Int32 → Int32 → Int32 → Option (Int32 × (Nat → Int32))) (hk_b13 : ∀ (tells : (Nat → Int32)) (l1 : Int32) (l2 : Int32) (l3 : Int32) (l4 : Int32) (H : Heap) (locs : List Loc) (ls : Array Slot), k_b13 tells l1 l2 l3 l4 = some rv → sS D vwCl A s.heap (wd_X9_ask cI cB cZ a_this a_all a_kept a_isKept a_refused a_hand a_outs a_order0 a_bestOrder a_tells a_bytes a_anew a_values all above below_ tells bytesLong tokenAt tokenLong token value) H locs → lv_has ls 7 [(0, .ref a_this), (1, .int l1), (2, .int l2), (3, .int l3), (4, .int l4)] → W p l e rm_X9_ask s m args below meth c H locs 0 0 Q (F0 m 13 ls [])) (k_b26 : (Nat → Int32) → Int32 → Int32 → Int32 → Int32 → Int32 → Option (Int32 × (Nat → Int32))) (hk_b26 : ∀ (tells : (Nat → Int32)) (l1 : Int32) (l2 : Int32) (l3 : Int32) (l4 : Int32) (l5 : Int32) (H : Heap) (locs : List Loc) (ls : Array Slot), k_b26 tells l1 l2 l3 l4 l5 = some rv → sS D vwCl A s.heap (wd_X9_ask cI cB cZ a_this a_all a_kept a_isKept a_refused a_hand a_outs a_order0 a_bestOrder a_tells a_bytes a_anew a_values all above below_ tells bytesLong tokenAt tokenLong token value) H locs → lv_has ls 7 [(0, .ref a_this), (1, .int l1), (2, .int l2), (3, .int l3), (4, .int l4), (5, .int l5)] → W p l e rm_X9_ask s m args below meth c H locs 0 0 Q (F0 m 26 ls [])) : ∀ (tells : (Nat → Int32)) (l1 : Int32) (l3 : Int32) (l4 : Int32) (l5 : Int32) (l6 : Int32) (t0 : Int32) (H : Heap) (locs : List Loc) (ls : Array Slot), f_X9_ask_b90 k_b13 k_b26 all tells l1 l3 l4 l5 l6 t0 = some rv → sS D vwCl A s.heap (wd_X9_ask cI cB cZ a_this a_all a_kept a_isKept a_refused a_hand a_outs a_order0 a_bestOrder a_tells a_bytes a_anew a_values all above below_ tells bytesLong tokenAt tokenLong token value) H locs → lv_has ls 7 [(0, .ref a_this), (1, .int l1), (3, .int l3), (4, .int l4), (5, .int l5), (6, .int l6)] → W p l e rm_X9_ask s m args below meth c H locs 0 0 Q (F0 m 90 ls [.int t0]) := by
  obtain ⟨hx, hb, hml, hown, hts, hK, hA⟩ := id C0
  have inX9 : ∀ w ∈ u_ws RX9 TX9 19, w ∈ wsX9_ask := inX9_X9_ask
  intro tells l1 l3 l4 l5 l6 t0 H locs ls h hS hl
  unfold f_X9_ask_b90 at h
  refine lv_istore_n (lv' := [(2, .int t0), (0, .ref a_this), (1, .int l1), (3, .int l3), (4, .int l4), (5, .int l5), (6, .int l6)]) hx hb dX9_ask_90 rfl hl (by decide) rfl (fun ls hl => ?_)
  refine lv_iload hx hb dX9_ask_91 (lv_at hl 6 rfl) ?_
  refine lv_iload_n hx hb dX9_ask_93 rfl (lv_at hl 3 rfl) ?_
  refine lv_icmp_ge (tgt := 102) hx hb dX9_ask_94 (by decide) (fun c1 => ?_) (fun c1 => ?_)
  · replace h := s_yes c1 h
    refine lv_iload_n hx hb dX9_ask_102 rfl (lv_at hl 3 rfl) ?_
    exact w_X9_ask_b103 C0 hend k_b13 hk_b13 k_b26 hk_b26 tells l1 t0 l4 l5 l3 _ _ _ h hS (lv_sub hl [1, 2, 0, 4, 5] rfl)
  replace h := s_no c1 h
  refine lv_iload hx hb dX9_ask_97 (lv_at hl 6 rfl) ?_
  refine lv_goto (tgt := 103) hx hb dX9_ask_99 (by decide) ?_
  exact w_X9_ask_b103 C0 hend k_b13 hk_b13 k_b26 hk_b26 tells l1 t0 l4 l5 l6 _ _ _ h hS (lv_sub hl [1, 2, 0, 4, 5] rfl)
def f_X9_ask_b36 (k_b13 : (Nat → Int32) → Int32 → Int32 → Int32 → Int32 → Option (Int32 × (Nat → Int32))) (k_b26 : (Nat → Int32) → Int32 → Int32 → Int32 → Int32 → Int32 → Option (Int32 × (Nat → Int32)))  (all : (Nat → Int32)) : Nat → (Nat → Int32) → Int32 → Int32 → Int32 → Int32 → Int32 → Int32 → Option (Int32 × (Nat → Int32))
  | 0, _, _, _, _, _, _, _ => none
  | fu + 1, tells, l1, l2, l3, l4, l5, l6 => (if (6 : Int32) ≤ l6 then ((f_X9_mostAlike tells l1).bind fun q3 => (if l3 ≤ q3 then f_X9_ask_b90 k_b13 k_b26 all tells l1 l3 l4 l5 q3 l2 else f_X9_ask_b90 k_b13 k_b26 all tells l1 l3 l4 l5 q3 (((10 : Int32) * l4) + l5))) else ((f_X9_passesAs l6 l4 l5).bind fun q5 => (if ¬ (l6 < 0 ∨ 6 ≤ (Int32.toNatClampNeg l6)) then (f_X9_ask_b36 k_b13 k_b26 all fu) (upd tells (Int32.toNatClampNeg l6) q5) l1 l2 l3 l4 l5 (l6 + (1 : Int32)) else none)))
set_option maxHeartbeats 4000000 in
set_option maxRecDepth 100000 in
theorem w_X9_ask_b36 {p : Program} {l : Launch} {e : Env} {s : State} {m : MethodId} {args : Array Value} {below : List Frame} {meth : Method} {c : Code} {A : Nat → Prop} {Q : State → Prop} {D : va_G} {cI cB cZ : ClassId} {a_this a_all a_kept a_isKept a_refused a_hand a_outs a_order0 a_bestOrder a_tells a_bytes a_anew a_values : Nat} {all : (Nat → Int32)} {above : Int64} {below_ : Int64} {bytesLong : Int32} {tokenAt : Int32} {tokenLong : Int32} {token : Int32} {value : Int32} (C0 : Cx p s m args c cX9_ask 7 RX9 wsX9_ask D (s_tys cI cB cZ) A) {rv : Int32 × (Nat → Int32)} (hend : ∀ (pc : Nat) (H : Heap) (locs : List Loc) (ls : Array Slot), decode cX9_ask pc = .ok (.ireturn, 1) → sS D vwCl A s.heap (wd_X9_ask cI cB cZ a_this a_all a_kept a_isKept a_refused a_hand a_outs a_order0 a_bestOrder a_tells a_bytes a_anew a_values all above below_ rv.2 bytesLong tokenAt tokenLong token value) H locs → W p l e rm_X9_ask s m args below meth c H locs 0 0 Q (F0 m pc ls [.int rv.1])) (k_b13 : (Nat → Int32) → Int32 → Int32 → Int32 → Int32 → Option (Int32 × (Nat → Int32))) (hk_b13 : ∀ (tells : (Nat → Int32)) (l1 : Int32) (l2 : Int32) (l3 : Int32) (l4 : Int32) (H : Heap) (locs : List Loc) (ls : Array Slot), k_b13 tells l1 l2 l3 l4 = some rv → sS D vwCl A s.heap (wd_X9_ask cI cB cZ a_this a_all a_kept a_isKept a_refused a_hand a_outs a_order0 a_bestOrder a_tells a_bytes a_anew a_values all above below_ tells bytesLong tokenAt tokenLong token value) H locs → lv_has ls 7 [(0, .ref a_this), (1, .int l1), (2, .int l2), (3, .int l3), (4, .int l4)] → W p l e rm_X9_ask s m args below meth c H locs 0 0 Q (F0 m 13 ls [])) (k_b26 : (Nat → Int32) → Int32 → Int32 → Int32 → Int32 → Int32 → Option (Int32 × (Nat → Int32))) (hk_b26 : ∀ (tells : (Nat → Int32)) (l1 : Int32) (l2 : Int32) (l3 : Int32) (l4 : Int32) (l5 : Int32) (H : Heap) (locs : List Loc) (ls : Array Slot), k_b26 tells l1 l2 l3 l4 l5 = some rv → sS D vwCl A s.heap (wd_X9_ask cI cB cZ a_this a_all a_kept a_isKept a_refused a_hand a_outs a_order0 a_bestOrder a_tells a_bytes a_anew a_values all above below_ tells bytesLong tokenAt tokenLong token value) H locs → lv_has ls 7 [(0, .ref a_this), (1, .int l1), (2, .int l2), (3, .int l3), (4, .int l4), (5, .int l5)] → W p l e rm_X9_ask s m args below meth c H locs 0 0 Q (F0 m 26 ls [])) : ∀ (fu : Nat) (tells : (Nat → Int32)) (l1 : Int32) (l2 : Int32) (l3 : Int32) (l4 : Int32) (l5 : Int32) (l6 : Int32) (H : Heap) (locs : List Loc) (ls : Array Slot), f_X9_ask_b36 k_b13 k_b26 all fu tells l1 l2 l3 l4 l5 l6 = some rv → sS D vwCl A s.heap (wd_X9_ask cI cB cZ a_this a_all a_kept a_isKept a_refused a_hand a_outs a_order0 a_bestOrder a_tells a_bytes a_anew a_values all above below_ tells bytesLong tokenAt tokenLong token value) H locs → lv_has ls 7 [(0, .ref a_this), (1, .int l1), (2, .int l2), (3, .int l3), (4, .int l4), (5, .int l5), (6, .int l6)] → W p l e rm_X9_ask s m args below meth c H locs 0 0 Q (F0 m 36 ls []) := by
  obtain ⟨hx, hb, hml, hown, hts, hK, hA⟩ := id C0
  have inX9 : ∀ w ∈ u_ws RX9 TX9 19, w ∈ wsX9_ask := inX9_X9_ask
  intro fu
  induction fu with
  | zero => intro tells l1 l2 l3 l4 l5 l6 H locs ls h; cases h
  | succ fu ih =>
    intro tells l1 l2 l3 l4 l5 l6 H locs ls h hS hl
    rw [f_X9_ask_b36] at h
    refine lv_iload hx hb dX9_ask_36 (lv_at hl 6 rfl) ?_
    refine lv_bipush (v := (6 : Int32)) hx hb dX9_ask_38 (by decide) ?_
    refine lv_icmp_ge (tgt := 65) hx hb dX9_ask_40 (by decide) (fun c2 => ?_) (fun c2 => ?_)
    · replace h := s_yes c2 h
      refine lv_aload_n hx hb dX9_ask_65 rfl (lv_at hl 0 rfl) ?_
      refine lv_iload_n hx hb dX9_ask_66 rfl (lv_at hl 1 rfl) ?_
      obtain ⟨q3, hq3, h⟩ := s_bind h
      refine u_calliV (r := q3) (As := [.int l1]) (rest := []) (wc := (wd_X9_mostAlike cI cB cZ a_this a_all a_kept a_isKept a_refused a_hand a_outs a_order0 a_bestOrder a_tells a_bytes a_anew a_values above below_ tells bytesLong tokenAt tokenLong token value)) hx hb hml hown hts hK hA hl hS (c_X9_mostAlike l D cI cB cZ a_this a_all a_kept a_isKept a_refused a_hand a_outs a_order0 a_bestOrder a_tells a_bytes a_anew a_values above below_ tells bytesLong tokenAt tokenLong token value l1 _ _ hq3) (cwV 1 hts gX9_ask_X9_mostAlike rfl rfl rfl (by decide +kernel) ⟨Nat.le_of_ble_eq_true rfl, Nat.le_of_ble_eq_true rfl⟩) 0 rfl rfl [0, 2] rfl rfl rfl rfl (Nat.le_of_ble_eq_true rfl) dX9_ask_67 (fun H locs hS => ?_)
      refine lv_istore (lv' := [(6, .int q3), (0, .ref a_this), (1, .int l1), (2, .int l2), (3, .int l3), (4, .int l4), (5, .int l5)]) hx hb dX9_ask_70 hl (by decide) rfl (fun ls hl => ?_)
      refine lv_iload hx hb dX9_ask_72 (lv_at hl 0 rfl) ?_
      refine lv_iload_n hx hb dX9_ask_74 rfl (lv_at hl 4 rfl) ?_
      refine lv_icmp_ge (tgt := 89) hx hb dX9_ask_75 (by decide) (fun c4 => ?_) (fun c4 => ?_)
      · replace h := s_yes c4 h
        refine lv_iload_n hx hb dX9_ask_89 rfl (lv_at hl 3 rfl) ?_
        exact w_X9_ask_b90 C0 hend k_b13 hk_b13 k_b26 hk_b26 tells l1 l3 l4 l5 q3 l2 _ _ _ h hS (lv_sub hl [1, 2, 4, 5, 6, 0] rfl)
      replace h := s_no c4 h
      refine lv_bipush (v := (10 : Int32)) hx hb dX9_ask_78 (by decide) ?_
      refine lv_iload hx hb dX9_ask_80 (lv_at hl 5 rfl) ?_
      refine lv_imul hx hb dX9_ask_82 ?_
      refine lv_iload hx hb dX9_ask_83 (lv_at hl 6 rfl) ?_
      refine lv_iadd hx hb dX9_ask_85 ?_
      refine lv_goto (tgt := 90) hx hb dX9_ask_86 (by decide) ?_
      exact w_X9_ask_b90 C0 hend k_b13 hk_b13 k_b26 hk_b26 tells l1 l3 l4 l5 q3 (((10 : Int32) * l4) + l5) _ _ _ h hS (lv_sub hl [1, 2, 4, 5, 6, 0] rfl)
    replace h := s_no c2 h
    refine lv_aload_n hx hb dX9_ask_43 rfl (lv_at hl 0 rfl) ?_
    refine s_get (C := RX9) (T := TX9) (N := 19) hx hb hts inX9 hown hK hS 0 rfl rfl 10 (by decide) (hts (.fieldLink RX9 39 "InnTurnedModel" "tells" "[I") (List.mem_of_getElem? (i := 2) rfl)) rfl rfl dX9_ask_44 ?_
    refine lv_iload hx hb dX9_ask_47 (lv_at hl 6 rfl) ?_
    refine lv_iload hx hb dX9_ask_49 (lv_at hl 6 rfl) ?_
    refine lv_iload hx hb dX9_ask_51 (lv_at hl 4 rfl) ?_
    refine lv_iload hx hb dX9_ask_53 (lv_at hl 5 rfl) ?_
    obtain ⟨q5, hq5, h⟩ := s_bind h
    refine u_calliS (r := q5) (As := [.int l6, .int l4, .int l5]) (rest := [.int l6, .ref a_tells]) (wc := ([] : va_W)) hx hb hml hown hts hK hA hl hS (c_X9_passesAs l D cI cB cZ l6 l4 l5 _ _ hq5) (va_cwS 3 hts gX9_ask_X9_passesAs rfl rfl rfl (by decide +kernel) ⟨Nat.le_of_ble_eq_true rfl, Nat.le_of_ble_eq_true rfl⟩) [] rfl rfl rfl rfl (Nat.le_of_ble_eq_true rfl) dX9_ask_55 (fun H locs hS => ?_)
    obtain ⟨g6, h⟩ := s_guard h
    refine s_iast (ws' := (wd_X9_ask cI cB cZ a_this a_all a_kept a_isKept a_refused a_hand a_outs a_order0 a_bestOrder a_tells a_bytes a_anew a_values all above below_ (upd tells (Int32.toNatClampNeg l6) q5) bytesLong tokenAt tokenLong token value)) hx hb hK hS 2 rfl rfl g6 rfl dX9_ask_58 (fun H locs hS => ?_)
    refine lv_iinc (v := (l6 + (1 : Int32))) (lv' := [(6, .int (l6 + (1 : Int32))), (0, .ref a_this), (1, .int l1), (2, .int l2), (3, .int l3), (4, .int l4), (5, .int l5)]) hx hb dX9_ask_59 hl (k := 6) rfl rfl (by decide) rfl (fun ls hl => ?_)
    refine lv_goto (tgt := 36) hx hb dX9_ask_62 (by decide) ?_
    exact ih (upd tells (Int32.toNatClampNeg l6) q5) l1 l2 l3 l4 l5 (l6 + (1 : Int32)) _ _ _ h hS (lv_sub hl [1, 2, 3, 4, 5, 6, 0] rfl)
def f_X9_ask_b26 (k_b13 : (Nat → Int32) → Int32 → Int32 → Int32 → Int32 → Option (Int32 × (Nat → Int32)))  (all : (Nat → Int32)) : Nat → (Nat → Int32) → Int32 → Int32 → Int32 → Int32 → Int32 → Option (Int32 × (Nat → Int32))
  | 0, _, _, _, _, _, _ => none
  | fu + 1, tells, l1, l2, l3, l4, l5 => (if (10 : Int32) ≤ l5 then k_b13 tells l1 l2 l3 (l4 + (1 : Int32)) else f_X9_ask_b36 k_b13 (f_X9_ask_b26 k_b13 all fu) all s_fuel tells l1 l2 l3 l4 l5 (0 : Int32))
set_option maxHeartbeats 4000000 in
set_option maxRecDepth 100000 in
theorem w_X9_ask_b26 {p : Program} {l : Launch} {e : Env} {s : State} {m : MethodId} {args : Array Value} {below : List Frame} {meth : Method} {c : Code} {A : Nat → Prop} {Q : State → Prop} {D : va_G} {cI cB cZ : ClassId} {a_this a_all a_kept a_isKept a_refused a_hand a_outs a_order0 a_bestOrder a_tells a_bytes a_anew a_values : Nat} {all : (Nat → Int32)} {above : Int64} {below_ : Int64} {bytesLong : Int32} {tokenAt : Int32} {tokenLong : Int32} {token : Int32} {value : Int32} (C0 : Cx p s m args c cX9_ask 7 RX9 wsX9_ask D (s_tys cI cB cZ) A) {rv : Int32 × (Nat → Int32)} (hend : ∀ (pc : Nat) (H : Heap) (locs : List Loc) (ls : Array Slot), decode cX9_ask pc = .ok (.ireturn, 1) → sS D vwCl A s.heap (wd_X9_ask cI cB cZ a_this a_all a_kept a_isKept a_refused a_hand a_outs a_order0 a_bestOrder a_tells a_bytes a_anew a_values all above below_ rv.2 bytesLong tokenAt tokenLong token value) H locs → W p l e rm_X9_ask s m args below meth c H locs 0 0 Q (F0 m pc ls [.int rv.1])) (k_b13 : (Nat → Int32) → Int32 → Int32 → Int32 → Int32 → Option (Int32 × (Nat → Int32))) (hk_b13 : ∀ (tells : (Nat → Int32)) (l1 : Int32) (l2 : Int32) (l3 : Int32) (l4 : Int32) (H : Heap) (locs : List Loc) (ls : Array Slot), k_b13 tells l1 l2 l3 l4 = some rv → sS D vwCl A s.heap (wd_X9_ask cI cB cZ a_this a_all a_kept a_isKept a_refused a_hand a_outs a_order0 a_bestOrder a_tells a_bytes a_anew a_values all above below_ tells bytesLong tokenAt tokenLong token value) H locs → lv_has ls 7 [(0, .ref a_this), (1, .int l1), (2, .int l2), (3, .int l3), (4, .int l4)] → W p l e rm_X9_ask s m args below meth c H locs 0 0 Q (F0 m 13 ls [])) : ∀ (fu : Nat) (tells : (Nat → Int32)) (l1 : Int32) (l2 : Int32) (l3 : Int32) (l4 : Int32) (l5 : Int32) (H : Heap) (locs : List Loc) (ls : Array Slot), f_X9_ask_b26 k_b13 all fu tells l1 l2 l3 l4 l5 = some rv → sS D vwCl A s.heap (wd_X9_ask cI cB cZ a_this a_all a_kept a_isKept a_refused a_hand a_outs a_order0 a_bestOrder a_tells a_bytes a_anew a_values all above below_ tells bytesLong tokenAt tokenLong token value) H locs → lv_has ls 7 [(0, .ref a_this), (1, .int l1), (2, .int l2), (3, .int l3), (4, .int l4), (5, .int l5)] → W p l e rm_X9_ask s m args below meth c H locs 0 0 Q (F0 m 26 ls []) := by
  obtain ⟨hx, hb, hml, hown, hts, hK, hA⟩ := id C0
  have inX9 : ∀ w ∈ u_ws RX9 TX9 19, w ∈ wsX9_ask := inX9_X9_ask
  intro fu
  induction fu with
  | zero => intro tells l1 l2 l3 l4 l5 H locs ls h; cases h
  | succ fu ih =>
    intro tells l1 l2 l3 l4 l5 H locs ls h hS hl
    rw [f_X9_ask_b26] at h
    refine lv_iload hx hb dX9_ask_26 (lv_at hl 5 rfl) ?_
    refine lv_bipush (v := (10 : Int32)) hx hb dX9_ask_28 (by decide) ?_
    refine lv_icmp_ge (tgt := 110) hx hb dX9_ask_30 (by decide) (fun c7 => ?_) (fun c7 => ?_)
    · replace h := s_yes c7 h
      refine lv_iinc (v := (l4 + (1 : Int32))) (lv' := [(4, .int (l4 + (1 : Int32))), (0, .ref a_this), (1, .int l1), (2, .int l2), (3, .int l3), (5, .int l5)]) hx hb dX9_ask_110 hl (k := 4) rfl rfl (by decide) rfl (fun ls hl => ?_)
      refine lv_goto (tgt := 13) hx hb dX9_ask_113 (by decide) ?_
      exact hk_b13 tells l1 l2 l3 (l4 + (1 : Int32)) _ _ _ h hS (lv_sub hl [1, 2, 3, 4, 0] rfl)
    replace h := s_no c7 h
    refine lv_iconst (v := (0 : Int32)) hx hb dX9_ask_33 (by decide) ?_
    refine lv_istore (lv' := [(6, .int (0 : Int32)), (0, .ref a_this), (1, .int l1), (2, .int l2), (3, .int l3), (4, .int l4), (5, .int l5)]) hx hb dX9_ask_34 hl (by decide) rfl (fun ls hl => ?_)
    exact w_X9_ask_b36 C0 hend k_b13 hk_b13 (f_X9_ask_b26 k_b13 all fu) ih s_fuel tells l1 l2 l3 l4 l5 (0 : Int32) _ _ _ h hS (lv_sub hl [1, 2, 3, 4, 5, 6, 0] rfl)
def f_X9_ask_b13  (all : (Nat → Int32)) : Nat → (Nat → Int32) → Int32 → Int32 → Int32 → Int32 → Option (Int32 × (Nat → Int32))
  | 0, _, _, _, _, _ => none
  | fu + 1, tells, l1, l2, l3, l4 => (if (5 : Int32) ≤ l4 then some (l2, tells) else (if l1 ≤ 0 then some (l2, tells) else f_X9_ask_b26 (f_X9_ask_b13 all fu) all s_fuel tells l1 l2 l3 l4 (0 : Int32)))
set_option maxHeartbeats 4000000 in
set_option maxRecDepth 100000 in
theorem w_X9_ask_b13 {p : Program} {l : Launch} {e : Env} {s : State} {m : MethodId} {args : Array Value} {below : List Frame} {meth : Method} {c : Code} {A : Nat → Prop} {Q : State → Prop} {D : va_G} {cI cB cZ : ClassId} {a_this a_all a_kept a_isKept a_refused a_hand a_outs a_order0 a_bestOrder a_tells a_bytes a_anew a_values : Nat} {all : (Nat → Int32)} {above : Int64} {below_ : Int64} {bytesLong : Int32} {tokenAt : Int32} {tokenLong : Int32} {token : Int32} {value : Int32} (C0 : Cx p s m args c cX9_ask 7 RX9 wsX9_ask D (s_tys cI cB cZ) A) {rv : Int32 × (Nat → Int32)} (hend : ∀ (pc : Nat) (H : Heap) (locs : List Loc) (ls : Array Slot), decode cX9_ask pc = .ok (.ireturn, 1) → sS D vwCl A s.heap (wd_X9_ask cI cB cZ a_this a_all a_kept a_isKept a_refused a_hand a_outs a_order0 a_bestOrder a_tells a_bytes a_anew a_values all above below_ rv.2 bytesLong tokenAt tokenLong token value) H locs → W p l e rm_X9_ask s m args below meth c H locs 0 0 Q (F0 m pc ls [.int rv.1])) : ∀ (fu : Nat) (tells : (Nat → Int32)) (l1 : Int32) (l2 : Int32) (l3 : Int32) (l4 : Int32) (H : Heap) (locs : List Loc) (ls : Array Slot), f_X9_ask_b13 all fu tells l1 l2 l3 l4 = some rv → sS D vwCl A s.heap (wd_X9_ask cI cB cZ a_this a_all a_kept a_isKept a_refused a_hand a_outs a_order0 a_bestOrder a_tells a_bytes a_anew a_values all above below_ tells bytesLong tokenAt tokenLong token value) H locs → lv_has ls 7 [(0, .ref a_this), (1, .int l1), (2, .int l2), (3, .int l3), (4, .int l4)] → W p l e rm_X9_ask s m args below meth c H locs 0 0 Q (F0 m 13 ls []) := by
  obtain ⟨hx, hb, hml, hown, hts, hK, hA⟩ := id C0
  have inX9 : ∀ w ∈ u_ws RX9 TX9 19, w ∈ wsX9_ask := inX9_X9_ask
  intro fu
  induction fu with
  | zero => intro tells l1 l2 l3 l4 H locs ls h; cases h
  | succ fu ih =>
    intro tells l1 l2 l3 l4 H locs ls h hS hl
    rw [f_X9_ask_b13] at h
    refine lv_iload hx hb dX9_ask_13 (lv_at hl 4 rfl) ?_
    refine lv_iconst (v := (5 : Int32)) hx hb dX9_ask_15 (by decide) ?_
    refine lv_icmp_ge (tgt := 116) hx hb dX9_ask_16 (by decide) (fun c8 => ?_) (fun c8 => ?_)
    · replace h := s_yes c8 h
      refine lv_iload_n hx hb dX9_ask_116 rfl (lv_at hl 2 rfl) ?_
      obtain rfl := Option.some.inj h
      exact hend _ _ _ _ dX9_ask_117 hS
    replace h := s_no c8 h
    refine lv_iload_n hx hb dX9_ask_19 rfl (lv_at hl 1 rfl) ?_
    refine lv_if_le (tgt := 116) hx hb dX9_ask_20 (by decide) (fun c9 => ?_) (fun c9 => ?_)
    · replace h := s_yes c9 h
      refine lv_iload_n hx hb dX9_ask_116 rfl (lv_at hl 2 rfl) ?_
      obtain rfl := Option.some.inj h
      exact hend _ _ _ _ dX9_ask_117 hS
    replace h := s_no c9 h
    refine lv_iconst (v := (0 : Int32)) hx hb dX9_ask_23 (by decide) ?_
    refine lv_istore (lv' := [(5, .int (0 : Int32)), (0, .ref a_this), (1, .int l1), (2, .int l2), (3, .int l3), (4, .int l4)]) hx hb dX9_ask_24 hl (by decide) rfl (fun ls hl => ?_)
    exact w_X9_ask_b26 C0 hend (f_X9_ask_b13 all fu) ih s_fuel tells l1 l2 l3 l4 (0 : Int32) _ _ _ h hS (lv_sub hl [1, 2, 3, 4, 5, 0] rfl)
def f_X9_ask  (all : (Nat → Int32)) (tells : (Nat → Int32)) : Option (Int32 × (Nat → Int32)) := ((f_X9_kindsOfLord all).bind fun q10 => f_X9_ask_b13  all s_fuel tells q10 (-1 : Int32) (1000000 : Int32) (0 : Int32))
set_option maxHeartbeats 4000000 in
set_option maxRecDepth 100000 in
theorem c_X9_ask (l : Launch) (D : va_G) (cI cB cZ : ClassId) (a_this : Nat) (a_all : Nat) (a_kept : Nat) (a_isKept : Nat) (a_refused : Nat) (a_hand : Nat) (a_outs : Nat) (a_order0 : Nat) (a_bestOrder : Nat) (a_tells : Nat) (a_bytes : Nat) (a_anew : Nat) (a_values : Nat) (all : (Nat → Int32)) (above : Int64) (below_ : Int64) (tells : (Nat → Int32)) (bytesLong : Int32) (tokenAt : Int32) (tokenLong : Int32) (token : Int32) (value : Int32) (rv : Int32 × (Nat → Int32)) (sz : Nat) (hf : f_X9_ask all tells = some rv) : Met l yX9_ask wsX9_ask rm_X9_ask (sPc D vwCl (s_tys cI cB cZ) [.ref a_this] (wd_X9_ask cI cB cZ a_this a_all a_kept a_isKept a_refused a_hand a_outs a_order0 a_bestOrder a_tells a_bytes a_anew a_values all above below_ tells bytesLong tokenAt tokenLong token value) sz) (sQi D vwCl (wd_X9_ask cI cB cZ a_this a_all a_kept a_isKept a_refused a_hand a_outs a_order0 a_bestOrder a_tells a_bytes a_anew a_values all above below_ tells bytesLong tokenAt tokenLong token value) (wd_X9_ask cI cB cZ a_this a_all a_kept a_isKept a_refused a_hand a_outs a_order0 a_bestOrder a_tells a_bytes a_anew a_values all above below_ rv.2 bytesLong tokenAt tokenLong token value) sz rv.1) 0 0 (va_A (wd_X9_ask cI cB cZ a_this a_all a_kept a_isKept a_refused a_hand a_outs a_order0 a_bestOrder a_tells a_bytes a_anew a_values all above below_ tells bytesLong tokenAt tokenLong token value) sz) := by
  refine s_enter_n (cc := cX9_ask) (nL := 7) (r := rv.1) (by decide) rfl (Nat.le_of_ble_eq_true rfl) ?_
  intro p e s m args below meth c A Q C0 hend ls hl hS
  have h := hf
  clear hf
  replace hl : lv_has ls 7 [(0, .ref a_this)] := hl
  unfold f_X9_ask at h
  obtain ⟨hx, hb, hml, hown, hts, hK, hA⟩ := id C0
  have inX9 : ∀ w ∈ u_ws RX9 TX9 19, w ∈ wsX9_ask := inX9_X9_ask
  refine lv_aload_n hx hb dX9_ask_0 rfl (lv_at hl 0 rfl) ?_
  obtain ⟨q10, hq10, h⟩ := s_bind h
  refine u_calliV (r := q10) (As := []) (rest := []) (wc := (wd_X9_kindsOfLord cI cB cZ a_this a_all a_kept a_isKept a_refused a_hand a_outs a_order0 a_bestOrder a_tells a_bytes a_anew a_values all above below_ bytesLong tokenAt tokenLong token value)) hx hb hml hown hts hK hA hl hS (c_X9_kindsOfLord l D cI cB cZ a_this a_all a_kept a_isKept a_refused a_hand a_outs a_order0 a_bestOrder a_tells a_bytes a_anew a_values all above below_ bytesLong tokenAt tokenLong token value _ _ hq10) (cwV 0 hts gX9_ask_X9_kindsOfLord rfl rfl rfl (by decide +kernel) ⟨Nat.le_of_ble_eq_true rfl, Nat.le_of_ble_eq_true rfl⟩) 0 rfl rfl [0, 1] rfl rfl rfl rfl (Nat.le_of_ble_eq_true rfl) dX9_ask_1 (fun H locs hS => ?_)
  refine lv_istore_n (lv' := [(1, .int q10), (0, .ref a_this)]) hx hb dX9_ask_4 rfl hl (by decide) rfl (fun ls hl => ?_)
  refine lv_iconst (v := (-1 : Int32)) hx hb dX9_ask_5 (by decide) ?_
  refine lv_istore_n (lv' := [(2, .int (-1 : Int32)), (1, .int q10), (0, .ref a_this)]) hx hb dX9_ask_6 rfl hl (by decide) rfl (fun ls hl => ?_)
  refine lv_ldc (v := (1000000 : Int32)) hx hb hown (hts (.constant RX9 172 (1000000)) (List.mem_of_getElem? (i := 1) rfl)) dX9_ask_7 ?_
  refine lv_istore_n (lv' := [(3, .int (1000000 : Int32)), (2, .int (-1 : Int32)), (1, .int q10), (0, .ref a_this)]) hx hb dX9_ask_9 rfl hl (by decide) rfl (fun ls hl => ?_)
  refine lv_iconst (v := (0 : Int32)) hx hb dX9_ask_10 (by decide) ?_
  refine lv_istore (lv' := [(4, .int (0 : Int32)), (3, .int (1000000 : Int32)), (2, .int (-1 : Int32)), (1, .int q10), (0, .ref a_this)]) hx hb dX9_ask_11 hl (by decide) rfl (fun ls hl => ?_)
  exact w_X9_ask_b13 C0 hend  s_fuel tells q10 (-1 : Int32) (1000000 : Int32) (0 : Int32) _ _ _ h hS (lv_sub hl [4, 3, 2, 1, 0] rfl)

-- InnTurnedModel.toGuest(ZZZ)I
abbrev rm_X9_toGuest : Room := { frames := 0, cells := 0, slots := 0, locals := 0 }
def f_X9_toGuest    (p1 : Int32) (p2 : Int32) (p3 : Int32) : Option (Int32) := (if p1 = 0 then some ((0 : Int32)) else (if p3 = 0 then some ((5 : Int32)) else (if p2 = 0 then some ((5 : Int32)) else some ((-3 : Int32)))))
set_option maxHeartbeats 4000000 in
set_option maxRecDepth 100000 in
theorem c_X9_toGuest (l : Launch) (D : va_G) (cI cB cZ : ClassId) (p1 : Int32) (p2 : Int32) (p3 : Int32) (rv : Int32) (sz : Nat) (hf : f_X9_toGuest p1 p2 p3 = some rv) : Met l yX9_toGuest wsX9_toGuest rm_X9_toGuest (sPc D vwCl (s_tys cI cB cZ) [.int p1, .int p2, .int p3] ([] : va_W) sz) (sQi D vwCl ([] : va_W) ([] : va_W) sz rv) 0 0 (va_A ([] : va_W) sz) := by
  refine s_enter_n (cc := cX9_toGuest) (nL := 3) (r := rv) (by decide) rfl (Nat.le_of_ble_eq_true rfl) ?_
  intro p e s m args below meth c A Q C0 hend ls hl hS
  have h := hf
  clear hf
  replace hl : lv_has ls 3 [(0, .int p1), (1, .int p2), (2, .int p3)] := hl
  unfold f_X9_toGuest at h
  obtain ⟨hx, hb, hml, hown, hts, hK, hA⟩ := id C0
  refine lv_iload_n hx hb dX9_toGuest_0 rfl (lv_at hl 0 rfl) ?_
  refine lv_if_ne (tgt := 8) hx hb dX9_toGuest_1 (by decide) (fun c1 => ?_) (fun c1 => ?_)
  · replace h := s_no c1 h
    refine lv_iload_n hx hb dX9_toGuest_8 rfl (lv_at hl 2 rfl) ?_
    refine lv_if_eq (tgt := 21) hx hb dX9_toGuest_9 (by decide) (fun c2 => ?_) (fun c2 => ?_)
    · replace h := s_yes c2 h
      refine lv_iconst (v := (5 : Int32)) hx hb dX9_toGuest_21 (by decide) ?_
      obtain rfl := Option.some.inj h
      exact hend _ _ _ _ dX9_toGuest_22 hS
    replace h := s_no c2 h
    refine lv_iload_n hx hb dX9_toGuest_12 rfl (lv_at hl 1 rfl) ?_
    refine lv_if_eq (tgt := 21) hx hb dX9_toGuest_13 (by decide) (fun c3 => ?_) (fun c3 => ?_)
    · replace h := s_yes c3 h
      refine lv_iconst (v := (5 : Int32)) hx hb dX9_toGuest_21 (by decide) ?_
      obtain rfl := Option.some.inj h
      exact hend _ _ _ _ dX9_toGuest_22 hS
    replace h := s_no c3 h
    refine lv_bipush (v := (-3 : Int32)) hx hb dX9_toGuest_16 (by decide) ?_
    refine lv_goto (tgt := 22) hx hb dX9_toGuest_18 (by decide) ?_
    obtain rfl := Option.some.inj h
    exact hend _ _ _ _ dX9_toGuest_22 hS
  replace h := s_yes c1 h
  refine lv_iconst (v := (0 : Int32)) hx hb dX9_toGuest_4 (by decide) ?_
  refine lv_goto (tgt := 22) hx hb dX9_toGuest_5 (by decide) ?_
  obtain rfl := Option.some.inj h
  exact hend _ _ _ _ dX9_toGuest_22 hS

-- InnTurnedModel.toHost(ZZZ)I
abbrev rm_X9_toHost : Room := { frames := 0, cells := 0, slots := 0, locals := 0 }
def f_X9_toHost_b13    (l1 : Int32) (t0 : Int32) : Option (Int32) := (if l1 = 0 then (if t0 = 0 then some ((0 : Int32)) else some ((-4 : Int32))) else (if t0 = 0 then some ((-2 : Int32)) else some ((4 : Int32))))
set_option maxHeartbeats 4000000 in
set_option maxRecDepth 100000 in
theorem w_X9_toHost_b13 {p : Program} {l : Launch} {e : Env} {s : State} {m : MethodId} {args : Array Value} {below : List Frame} {meth : Method} {c : Code} {A : Nat → Prop} {Q : State → Prop} {D : va_G} {cI cB cZ : ClassId} (C0 : Cx p s m args c cX9_toHost 4 RX9 wsX9_toHost D (s_tys cI cB cZ) A) {rv : Int32} (hend : ∀ (pc : Nat) (H : Heap) (locs : List Loc) (ls : Array Slot), decode cX9_toHost pc = .ok (.ireturn, 1) → sS D vwCl A s.heap ([] : va_W) H locs → W p l e rm_X9_toHost s m args below meth c H locs 0 0 Q (F0 m pc ls [.int rv])) : ∀  (l1 : Int32) (t0 : Int32) (H : Heap) (locs : List Loc) (ls : Array Slot), f_X9_toHost_b13  l1 t0 = some rv → sS D vwCl A s.heap ([] : va_W) H locs → lv_has ls 4 [(1, .int l1)] → W p l e rm_X9_toHost s m args below meth c H locs 0 0 Q (F0 m 13 ls [.int t0]) := by
  obtain ⟨hx, hb, hml, hown, hts, hK, hA⟩ := id C0
  intro l1 t0 H locs ls h hS hl
  unfold f_X9_toHost_b13 at h
  refine lv_istore_n (lv' := [(3, .int t0), (1, .int l1)]) hx hb dX9_toHost_13 rfl hl (by decide) rfl (fun ls hl => ?_)
  refine lv_iload_n hx hb dX9_toHost_14 rfl (lv_at hl 1 rfl) ?_
  refine lv_if_eq (tgt := 31) hx hb dX9_toHost_15 (by decide) (fun c1 => ?_) (fun c1 => ?_)
  · replace h := s_yes c1 h
    refine lv_iload_n hx hb dX9_toHost_31 rfl (lv_at hl 0 rfl) ?_
    refine lv_if_eq (tgt := 40) hx hb dX9_toHost_32 (by decide) (fun c2 => ?_) (fun c2 => ?_)
    · replace h := s_yes c2 h
      refine lv_iconst (v := (0 : Int32)) hx hb dX9_toHost_40 (by decide) ?_
      obtain rfl := Option.some.inj h
      exact hend _ _ _ _ dX9_toHost_41 hS
    replace h := s_no c2 h
    refine lv_bipush (v := (-4 : Int32)) hx hb dX9_toHost_35 (by decide) ?_
    refine lv_goto (tgt := 41) hx hb dX9_toHost_37 (by decide) ?_
    obtain rfl := Option.some.inj h
    exact hend _ _ _ _ dX9_toHost_41 hS
  replace h := s_no c1 h
  refine lv_iload_n hx hb dX9_toHost_18 rfl (lv_at hl 0 rfl) ?_
  refine lv_if_eq (tgt := 26) hx hb dX9_toHost_19 (by decide) (fun c3 => ?_) (fun c3 => ?_)
  · replace h := s_yes c3 h
    refine lv_bipush (v := (-2 : Int32)) hx hb dX9_toHost_26 (by decide) ?_
    refine lv_goto (tgt := 41) hx hb dX9_toHost_28 (by decide) ?_
    obtain rfl := Option.some.inj h
    exact hend _ _ _ _ dX9_toHost_41 hS
  replace h := s_no c3 h
  refine lv_iconst (v := (4 : Int32)) hx hb dX9_toHost_22 (by decide) ?_
  refine lv_goto (tgt := 41) hx hb dX9_toHost_23 (by decide) ?_
  obtain rfl := Option.some.inj h
  exact hend _ _ _ _ dX9_toHost_41 hS
def f_X9_toHost_b12    (l1 : Int32) : Option (Int32) := f_X9_toHost_b13   l1 (0 : Int32)
set_option maxHeartbeats 4000000 in
set_option maxRecDepth 100000 in
theorem w_X9_toHost_b12 {p : Program} {l : Launch} {e : Env} {s : State} {m : MethodId} {args : Array Value} {below : List Frame} {meth : Method} {c : Code} {A : Nat → Prop} {Q : State → Prop} {D : va_G} {cI cB cZ : ClassId} (C0 : Cx p s m args c cX9_toHost 4 RX9 wsX9_toHost D (s_tys cI cB cZ) A) {rv : Int32} (hend : ∀ (pc : Nat) (H : Heap) (locs : List Loc) (ls : Array Slot), decode cX9_toHost pc = .ok (.ireturn, 1) → sS D vwCl A s.heap ([] : va_W) H locs → W p l e rm_X9_toHost s m args below meth c H locs 0 0 Q (F0 m pc ls [.int rv])) : ∀  (l1 : Int32) (H : Heap) (locs : List Loc) (ls : Array Slot), f_X9_toHost_b12  l1 = some rv → sS D vwCl A s.heap ([] : va_W) H locs → lv_has ls 4 [(1, .int l1)] → W p l e rm_X9_toHost s m args below meth c H locs 0 0 Q (F0 m 12 ls []) := by
  obtain ⟨hx, hb, hml, hown, hts, hK, hA⟩ := id C0
  intro l1 H locs ls h hS hl
  unfold f_X9_toHost_b12 at h
  refine lv_iconst (v := (0 : Int32)) hx hb dX9_toHost_12 (by decide) ?_
  exact w_X9_toHost_b13 C0 hend  l1 (0 : Int32) _ _ _ h hS (lv_sub hl [0] rfl)
def f_X9_toHost    (p1 : Int32) (p2 : Int32) (p3 : Int32) : Option (Int32) := (if p1 = 0 then f_X9_toHost_b12   p2 else (if p3 = 0 then f_X9_toHost_b12   p2 else f_X9_toHost_b13   p2 (1 : Int32)))
set_option maxHeartbeats 4000000 in
set_option maxRecDepth 100000 in
theorem c_X9_toHost (l : Launch) (D : va_G) (cI cB cZ : ClassId) (p1 : Int32) (p2 : Int32) (p3 : Int32) (rv : Int32) (sz : Nat) (hf : f_X9_toHost p1 p2 p3 = some rv) : Met l yX9_toHost wsX9_toHost rm_X9_toHost (sPc D vwCl (s_tys cI cB cZ) [.int p1, .int p2, .int p3] ([] : va_W) sz) (sQi D vwCl ([] : va_W) ([] : va_W) sz rv) 0 0 (va_A ([] : va_W) sz) := by
  refine s_enter_n (cc := cX9_toHost) (nL := 4) (r := rv) (by decide) rfl (Nat.le_of_ble_eq_true rfl) ?_
  intro p e s m args below meth c A Q C0 hend ls hl hS
  have h := hf
  clear hf
  replace hl : lv_has ls 4 [(0, .int p1), (1, .int p2), (2, .int p3)] := hl
  unfold f_X9_toHost at h
  obtain ⟨hx, hb, hml, hown, hts, hK, hA⟩ := id C0
  refine lv_iload_n hx hb dX9_toHost_0 rfl (lv_at hl 0 rfl) ?_
  refine lv_if_eq (tgt := 12) hx hb dX9_toHost_1 (by decide) (fun c4 => ?_) (fun c4 => ?_)
  · replace h := s_yes c4 h
    exact w_X9_toHost_b12 C0 hend  p2 _ _ _ h hS (lv_sub hl [1] rfl)
  replace h := s_no c4 h
  refine lv_iload_n hx hb dX9_toHost_4 rfl (lv_at hl 2 rfl) ?_
  refine lv_if_eq (tgt := 12) hx hb dX9_toHost_5 (by decide) (fun c5 => ?_) (fun c5 => ?_)
  · replace h := s_yes c5 h
    exact w_X9_toHost_b12 C0 hend  p2 _ _ _ h hS (lv_sub hl [1] rfl)
  replace h := s_no c5 h
  refine lv_iconst (v := (1 : Int32)) hx hb dX9_toHost_8 (by decide) ?_
  refine lv_goto (tgt := 13) hx hb dX9_toHost_9 (by decide) ?_
  exact w_X9_toHost_b13 C0 hend  p2 (1 : Int32) _ _ _ h hS (lv_sub hl [1] rfl)

