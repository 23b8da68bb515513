-- InnTurnedModel.seen(IIII)I
def wd_X9_seen (cI cB cZ : ClassId) (a_this : Nat) (a_all : Nat) (a_kept : Nat) (a_isKept : Nat) (a_refused : Nat) (a_hand : Nat) (a_outs : Nat) (a_order0 : Nat) (a_bestOrder : Nat) (a_tells : Nat) (a_bytes : Nat) (a_anew : Nat) (a_values : Nat)  (all : (Nat → Int32)) (refused : (Nat → Int32)) (above : Int64) (below_ : Int64) (bytesLong : Int32) (tokenAt : Int32) (tokenLong : Int32) (token : Int32) (value : Int32) : va_W := [(a_this, .inr (6, [.ref a_all, .ref a_kept, .ref a_isKept, .ref a_refused, .long above, .long below_, .ref a_hand, .ref a_outs, .ref a_order0, .ref a_bestOrder, .ref a_tells, .ref a_bytes, .int bytesLong, .int tokenAt, .int tokenLong, .int token, .int value, .ref a_anew, .ref a_values])), (a_all, .inl (cI, 250, .inl all)), (a_refused, .inl (cI, 3, .inl refused))]
abbrev rm_X9_seen : Room := { frames := 2, cells := 0, slots := 0, locals := 46 }
set_option maxRecDepth 20000 in
theorem inX9_X9_seen : ∀ w ∈ u_ws RX9 TX9 19, w ∈ wsX9_seen := by decide +kernel
def f_X9_seen_b38   (all : (Nat → Int32)) (refused : (Nat → Int32)) : Option (Int32 × (Nat → Int32) × (Nat → Int32)) := ((f_X9_bad refused (-2 : Int32)).bind fun q1 => some (q1.1, all, q1.2))
set_option maxHeartbeats 4000000 in
set_option maxRecDepth 100000 in
theorem w_X9_seen_b38 {p : Program} {l : Launch} {e : Env} {s : State} {m : MethodId} {args : Array Value} {below : List Frame} {meth : Method} {c : Code} {A : Nat → Prop} {Q : State → Prop} {D : va_G} {cI cB cZ : ClassId} {a_this a_all a_kept a_isKept a_refused a_hand a_outs a_order0 a_bestOrder a_tells a_bytes a_anew a_values : Nat} {above : Int64} {below_ : Int64} {bytesLong : Int32} {tokenAt : Int32} {tokenLong : Int32} {token : Int32} {value : Int32} (C0 : Cx p s m args c cX9_seen 6 RX9 wsX9_seen D (s_tys cI cB cZ) A) {rv : Int32 × (Nat → Int32) × (Nat → Int32)} (hend : ∀ (pc : Nat) (H : Heap) (locs : List Loc) (ls : Array Slot), decode cX9_seen pc = .ok (.ireturn, 1) → sS D vwCl A s.heap (wd_X9_seen cI cB cZ a_this a_all a_kept a_isKept a_refused a_hand a_outs a_order0 a_bestOrder a_tells a_bytes a_anew a_values rv.2.1 rv.2.2 above below_ bytesLong tokenAt tokenLong token value) H locs → W p l e rm_X9_seen s m args below meth c H locs 0 0 Q (F0 m pc ls [.int rv.1])) : ∀ (all : (Nat → Int32)) (refused : (Nat → Int32)) (H : Heap) (locs : List Loc) (ls : Array Slot), f_X9_seen_b38  all refused = some rv → sS D vwCl A s.heap (wd_X9_seen cI cB cZ a_this a_all a_kept a_isKept a_refused a_hand a_outs a_order0 a_bestOrder a_tells a_bytes a_anew a_values all refused above below_ bytesLong tokenAt tokenLong token value) H locs → lv_has ls 6 [(0, .ref a_this)] → W p l e rm_X9_seen s m args below meth c H locs 0 0 Q (F0 m 38 ls []) := by
  obtain ⟨hx, hb, hml, hown, hts, hK, hA⟩ := id C0
  have inX9 : ∀ w ∈ u_ws RX9 TX9 19, w ∈ wsX9_seen := inX9_X9_seen
  intro all refused H locs ls h hS hl
  unfold f_X9_seen_b38 at h
  refine lv_aload_n hx hb dX9_seen_38 rfl (lv_at hl 0 rfl) ?_
  refine lv_bipush (v := (-2 : Int32)) hx hb dX9_seen_39 (by decide) ?_
  obtain ⟨q1, hq1, h⟩ := s_bind h
  refine r_calliV (r := q1.1) (As := [.int (-2 : Int32)]) (rest := []) (wc := (wd_X9_bad cI cB cZ a_this a_all a_kept a_isKept a_refused a_hand a_outs a_order0 a_bestOrder a_tells a_bytes a_anew a_values refused above below_ bytesLong tokenAt tokenLong token value)) (w1 := (wd_X9_bad cI cB cZ a_this a_all a_kept a_isKept a_refused a_hand a_outs a_order0 a_bestOrder a_tells a_bytes a_anew a_values q1.2 above below_ bytesLong tokenAt tokenLong token value)) (ws' := (wd_X9_seen cI cB cZ a_this a_all a_kept a_isKept a_refused a_hand a_outs a_order0 a_bestOrder a_tells a_bytes a_anew a_values all q1.2 above below_ bytesLong tokenAt tokenLong token value)) hx hb hml hown hts hK hA hl hS (c_X9_bad l D cI cB cZ a_this a_all a_kept a_isKept a_refused a_hand a_outs a_order0 a_bestOrder a_tells a_bytes a_anew a_values refused above below_ bytesLong tokenAt tokenLong token value (-2 : Int32) _ _ hq1) (cwV 1 hts gX9_seen_X9_bad rfl rfl rfl (by decide +kernel) ⟨Nat.le_of_ble_eq_true rfl, Nat.le_of_ble_eq_true rfl⟩) 0 rfl rfl [0, 2] rfl rfl rfl [.inr 0, .inl 1, .inr 1] rfl rfl rfl rfl (Nat.le_of_ble_eq_true rfl) dX9_seen_41 (fun H locs hS => ?_)
  obtain rfl := Option.some.inj h
  exact hend _ _ _ _ dX9_seen_44 hS
def f_X9_seen   (all : (Nat → Int32)) (refused : (Nat → Int32)) (p1 : Int32) (p2 : Int32) (p3 : Int32) (p4 : Int32) : Option (Int32 × (Nat → Int32) × (Nat → Int32)) := ((f_X9_isOne all p1).bind fun q2 => (if q2 = 0 then f_X9_seen_b38   all refused else ((f_X9_isWord p2).bind fun q4 => (if q4 = 0 then f_X9_seen_b38   all refused else ((f_X9_in (Int32.toInt64 p3) (0 : Int64) (99 : Int64)).bind fun q6 => (if q6 = 0 then f_X9_seen_b38   all refused else ((f_X9_in (Int32.toInt64 p4) (0 : Int64) (1 : Int64)).bind fun q8 => (if q8 = 0 then f_X9_seen_b38   all refused else (if (all (Int32.toNatClampNeg (1 : Int32))) = (5 : Int32) then ((f_X9_full refused).bind fun q15 => some (q15.1, all, q15.2)) else (if ¬ (((38 : Int32) + ((4 : Int32) * (all (Int32.toNatClampNeg (1 : Int32))))) < 0 ∨ 250 ≤ (Int32.toNatClampNeg ((38 : Int32) + ((4 : Int32) * (all (Int32.toNatClampNeg (1 : Int32))))))) then (if ¬ ((((38 : Int32) + ((4 : Int32) * (all (Int32.toNatClampNeg (1 : Int32))))) + (1 : Int32)) < 0 ∨ 250 ≤ (Int32.toNatClampNeg (((38 : Int32) + ((4 : Int32) * (all (Int32.toNatClampNeg (1 : Int32))))) + (1 : Int32)))) then (if ¬ ((((38 : Int32) + ((4 : Int32) * (all (Int32.toNatClampNeg (1 : Int32))))) + (2 : Int32)) < 0 ∨ 250 ≤ (Int32.toNatClampNeg (((38 : Int32) + ((4 : Int32) * (all (Int32.toNatClampNeg (1 : Int32))))) + (2 : Int32)))) then (if ¬ ((((38 : Int32) + ((4 : Int32) * (all (Int32.toNatClampNeg (1 : Int32))))) + (3 : Int32)) < 0 ∨ 250 ≤ (Int32.toNatClampNeg (((38 : Int32) + ((4 : Int32) * (all (Int32.toNatClampNeg (1 : Int32))))) + (3 : Int32)))) then some (((upd (upd (upd (upd (upd all (Int32.toNatClampNeg ((38 : Int32) + ((4 : Int32) * (all (Int32.toNatClampNeg (1 : Int32)))))) p1) (Int32.toNatClampNeg (((38 : Int32) + ((4 : Int32) * (all (Int32.toNatClampNeg (1 : Int32))))) + (1 : Int32))) p2) (Int32.toNatClampNeg (((38 : Int32) + ((4 : Int32) * (all (Int32.toNatClampNeg (1 : Int32))))) + (2 : Int32))) p3) (Int32.toNatClampNeg (((38 : Int32) + ((4 : Int32) * (all (Int32.toNatClampNeg (1 : Int32))))) + (3 : Int32))) p4) (Int32.toNatClampNeg (1 : Int32)) (((upd (upd (upd (upd all (Int32.toNatClampNeg ((38 : Int32) + ((4 : Int32) * (all (Int32.toNatClampNeg (1 : Int32)))))) p1) (Int32.toNatClampNeg (((38 : Int32) + ((4 : Int32) * (all (Int32.toNatClampNeg (1 : Int32))))) + (1 : Int32))) p2) (Int32.toNatClampNeg (((38 : Int32) + ((4 : Int32) * (all (Int32.toNatClampNeg (1 : Int32))))) + (2 : Int32))) p3) (Int32.toNatClampNeg (((38 : Int32) + ((4 : Int32) * (all (Int32.toNatClampNeg (1 : Int32))))) + (3 : Int32))) p4) (Int32.toNatClampNeg (1 : Int32))) + (1 : Int32))) (Int32.toNatClampNeg (1 : Int32))), (upd (upd (upd (upd (upd all (Int32.toNatClampNeg ((38 : Int32) + ((4 : Int32) * (all (Int32.toNatClampNeg (1 : Int32)))))) p1) (Int32.toNatClampNeg (((38 : Int32) + ((4 : Int32) * (all (Int32.toNatClampNeg (1 : Int32))))) + (1 : Int32))) p2) (Int32.toNatClampNeg (((38 : Int32) + ((4 : Int32) * (all (Int32.toNatClampNeg (1 : Int32))))) + (2 : Int32))) p3) (Int32.toNatClampNeg (((38 : Int32) + ((4 : Int32) * (all (Int32.toNatClampNeg (1 : Int32))))) + (3 : Int32))) p4) (Int32.toNatClampNeg (1 : Int32)) (((upd (upd (upd (upd all (Int32.toNatClampNeg ((38 : Int32) + ((4 : Int32) * (all (Int32.toNatClampNeg (1 : Int32)))))) p1) (Int32.toNatClampNeg (((38 : Int32) + ((4 : Int32) * (all (Int32.toNatClampNeg (1 : Int32))))) + (1 : Int32))) p2) (Int32.toNatClampNeg (((38 : Int32) + ((4 : Int32) * (all (Int32.toNatClampNeg (1 : Int32))))) + (2 : Int32))) p3) (Int32.toNatClampNeg (((38 : Int32) + ((4 : Int32) * (all (Int32.toNatClampNeg (1 : Int32))))) + (3 : Int32))) p4) (Int32.toNatClampNeg (1 : Int32))) + (1 : Int32))), refused) else none) else none) else none) else none))))))))))
set_option maxHeartbeats 4000000 in
set_option maxRecDepth 100000 in
theorem c_X9_seen (l : Launch) (D : va_G) (cI cB cZ : ClassId) (a_this : Nat) (a_all : Nat) (a_kept : Nat) (a_isKept : Nat) (a_refused : Nat) (a_hand : Nat) (a_outs : Nat) (a_order0 : Nat) (a_bestOrder : Nat) (a_tells : Nat) (a_bytes : Nat) (a_anew : Nat) (a_values : Nat) (all : (Nat → Int32)) (refused : (Nat → Int32)) (above : Int64) (below_ : Int64) (bytesLong : Int32) (tokenAt : Int32) (tokenLong : Int32) (token : Int32) (value : Int32) (p1 : Int32) (p2 : Int32) (p3 : Int32) (p4 : Int32) (rv : Int32 × (Nat → Int32) × (Nat → Int32)) (sz : Nat) (hf : f_X9_seen all refused p1 p2 p3 p4 = some rv) : Met l yX9_seen wsX9_seen rm_X9_seen (sPc D vwCl (s_tys cI cB cZ) [.ref a_this, .int p1, .int p2, .int p3, .int p4] (wd_X9_seen cI cB cZ a_this a_all a_kept a_isKept a_refused a_hand a_outs a_order0 a_bestOrder a_tells a_bytes a_anew a_values all refused above below_ bytesLong tokenAt tokenLong token value) sz) (sQi D vwCl (wd_X9_seen cI cB cZ a_this a_all a_kept a_isKept a_refused a_hand a_outs a_order0 a_bestOrder a_tells a_bytes a_anew a_values all refused above below_ bytesLong tokenAt tokenLong token value) (wd_X9_seen cI cB cZ a_this a_all a_kept a_isKept a_refused a_hand a_outs a_order0 a_bestOrder a_tells a_bytes a_anew a_values rv.2.1 rv.2.2 above below_ bytesLong tokenAt tokenLong token value) sz rv.1) 0 0 (va_A (wd_X9_seen cI cB cZ a_this a_all a_kept a_isKept a_refused a_hand a_outs a_order0 a_bestOrder a_tells a_bytes a_anew a_values all refused above below_ bytesLong tokenAt tokenLong token value) sz) := by
  refine s_enter_n (cc := cX9_seen) (nL := 6) (r := rv.1) (by decide) rfl (Nat.le_of_ble_eq_true rfl) ?_
  intro p e s m args below meth c A Q C0 hend ls hl hS
  have h := hf
  clear hf
  replace hl : lv_has ls 6 [(0, .ref a_this), (1, .int p1), (2, .int p2), (3, .int p3), (4, .int p4)] := hl
  unfold f_X9_seen at h
  obtain ⟨hx, hb, hml, hown, hts, hK, hA⟩ := id C0
  have inX9 : ∀ w ∈ u_ws RX9 TX9 19, w ∈ wsX9_seen := inX9_X9_seen
  refine lv_aload_n hx hb dX9_seen_0 rfl (lv_at hl 0 rfl) ?_
  refine lv_iload_n hx hb dX9_seen_1 rfl (lv_at hl 1 rfl) ?_
  obtain ⟨q2, hq2, h⟩ := s_bind h
  refine u_calliV (r := q2) (As := [.int p1]) (rest := []) (wc := (wd_X9_isOne cI cB cZ a_this a_all a_kept a_isKept a_refused a_hand a_outs a_order0 a_bestOrder a_tells a_bytes a_anew a_values all above below_ bytesLong tokenAt tokenLong token value)) hx hb hml hown hts hK hA hl hS (c_X9_isOne l D cI cB cZ a_this a_all a_kept a_isKept a_refused a_hand a_outs a_order0 a_bestOrder a_tells a_bytes a_anew a_values all above below_ bytesLong tokenAt tokenLong token value p1 _ _ hq2) (cwV 1 hts gX9_seen_X9_isOne rfl rfl rfl (by decide +kernel) ⟨Nat.le_of_ble_eq_true rfl, Nat.le_of_ble_eq_true rfl⟩) 0 rfl rfl [0, 1] rfl rfl rfl rfl (Nat.le_of_ble_eq_true rfl) dX9_seen_2 (fun H locs hS => ?_)
  refine lv_if_eq (tgt := 38) hx hb dX9_seen_5 (by decide) (fun c3 => ?_) (fun c3 => ?_)
  · replace h := s_yes c3 h
    exact w_X9_seen_b38 C0 hend  all refused _ _ _ h hS (lv_sub hl [0] rfl)
  replace h := s_no c3 h
  refine lv_iload_n hx hb dX9_seen_8 rfl (lv_at hl 2 rfl) ?_
  obtain ⟨q4, hq4, h⟩ := s_bind h
  refine u_calliS (r := q4) (As := [.int p2]) (rest := []) (wc := ([] : va_W)) hx hb hml hown hts hK hA hl hS (c_X9_isWord l D cI cB cZ p2 _ _ hq4) (va_cwS 1 hts gX9_seen_X9_isWord rfl rfl rfl (by decide +kernel) ⟨Nat.le_of_ble_eq_true rfl, Nat.le_of_ble_eq_true rfl⟩) [] rfl rfl rfl rfl (Nat.le_of_ble_eq_true rfl) dX9_seen_9 (fun H locs hS => ?_)
  refine lv_if_eq (tgt := 38) hx hb dX9_seen_12 (by decide) (fun c5 => ?_) (fun c5 => ?_)
  · replace h := s_yes c5 h
    exact w_X9_seen_b38 C0 hend  all refused _ _ _ h hS (lv_sub hl [0] rfl)
  replace h := s_no c5 h
  refine lv_iload_n hx hb dX9_seen_15 rfl (lv_at hl 3 rfl) ?_
  refine lv_i2l (v := (Int32.toInt64 p3)) hx hb dX9_seen_16 rfl ?_
  refine lv_lconst (v := (0 : Int64)) hx hb dX9_seen_17 (by decide) ?_
  refine lv_ldc2 (v := (99 : Int64)) hx hb hown (hts (.constantLong RX9 141 (99)) (List.mem_of_getElem? (i := 1) rfl)) dX9_seen_18 ?_
  obtain ⟨q6, hq6, h⟩ := s_bind h
  refine u_calliS (r := q6) (As := [.long (Int32.toInt64 p3), .long (0 : Int64), .long (99 : Int64)]) (rest := []) (wc := ([] : va_W)) hx hb hml hown hts hK hA hl hS (c_X9_in l D cI cB cZ (Int32.toInt64 p3) (0 : Int64) (99 : Int64) _ _ hq6) (va_cwS 3 hts gX9_seen_X9_in rfl rfl rfl (by decide +kernel) ⟨Nat.le_of_ble_eq_true rfl, Nat.le_of_ble_eq_true rfl⟩) [] rfl rfl rfl rfl (Nat.le_of_ble_eq_true rfl) dX9_seen_21 (fun H locs hS => ?_)
  refine lv_if_eq (tgt := 38) hx hb dX9_seen_24 (by decide) (fun c7 => ?_) (fun c7 => ?_)
  · replace h := s_yes c7 h
    exact w_X9_seen_b38 C0 hend  all refused _ _ _ h hS (lv_sub hl [0] rfl)
  replace h := s_no c7 h
  refine lv_iload hx hb dX9_seen_27 (lv_at hl 4 rfl) ?_
  refine lv_i2l (v := (Int32.toInt64 p4)) hx hb dX9_seen_29 rfl ?_
  refine lv_lconst (v := (0 : Int64)) hx hb dX9_seen_30 (by decide) ?_
  refine lv_lconst (v := (1 : Int64)) hx hb dX9_seen_31 (by decide) ?_
  obtain ⟨q8, hq8, h⟩ := s_bind h
  refine u_calliS (r := q8) (As := [.long (Int32.toInt64 p4), .long (0 : Int64), .long (1 : Int64)]) (rest := []) (wc := ([] : va_W)) hx hb hml hown hts hK hA hl hS (c_X9_in l D cI cB cZ (Int32.toInt64 p4) (0 : Int64) (1 : Int64) _ _ hq8) (va_cwS 3 hts gX9_seen_X9_in rfl rfl rfl (by decide +kernel) ⟨Nat.le_of_ble_eq_true rfl, Nat.le_of_ble_eq_true rfl⟩) [] rfl rfl rfl rfl (Nat.le_of_ble_eq_true rfl) dX9_seen_32 (fun H locs hS => ?_)
  refine lv_if_ne (tgt := 45) hx hb dX9_seen_35 (by decide) (fun c9 => ?_) (fun c9 => ?_)
  · replace h := s_no c9 h
    refine lv_aload_n hx hb dX9_seen_45 rfl (lv_at hl 0 rfl) ?_
    refine s_get (C := RX9) (T := TX9) (N := 19) hx hb hts inX9 hown hK hS 0 rfl rfl 0 (by decide) (hts (.fieldLink RX9 7 "InnTurnedModel" "all" "[I") (List.mem_of_getElem? (i := 2) rfl)) rfl rfl dX9_seen_46 ?_
    refine lv_iconst (v := (1 : Int32)) hx hb dX9_seen_49 (by decide) ?_
    refine s_iald hx hb hK hS 1 rfl rfl (by decide) dX9_seen_50 ?_
    refine lv_iconst (v := (5 : Int32)) hx hb dX9_seen_51 (by decide) ?_
    refine lv_icmp_ne (tgt := 60) hx hb dX9_seen_52 (by decide) (fun c10 => ?_) (fun c10 => ?_)
    · replace h := s_no c10 h
      refine lv_bipush (v := (38 : Int32)) hx hb dX9_seen_60 (by decide) ?_
      refine lv_iconst (v := (4 : Int32)) hx hb dX9_seen_62 (by decide) ?_
      refine lv_aload_n hx hb dX9_seen_63 rfl (lv_at hl 0 rfl) ?_
      refine s_get (C := RX9) (T := TX9) (N := 19) hx hb hts inX9 hown hK hS 0 rfl rfl 0 (by decide) (hts (.fieldLink RX9 7 "InnTurnedModel" "all" "[I") (List.mem_of_getElem? (i := 2) rfl)) rfl rfl dX9_seen_64 ?_
      refine lv_iconst (v := (1 : Int32)) hx hb dX9_seen_67 (by decide) ?_
      refine s_iald hx hb hK hS 1 rfl rfl (by decide) dX9_seen_68 ?_
      refine lv_imul hx hb dX9_seen_69 ?_
      refine lv_iadd hx hb dX9_seen_70 ?_
      refine lv_istore (lv' := [(5, .int ((38 : Int32) + ((4 : Int32) * (all (Int32.toNatClampNeg (1 : Int32)))))), (0, .ref a_this), (1, .int p1), (2, .int p2), (3, .int p3), (4, .int p4)]) hx hb dX9_seen_71 hl (by decide) rfl (fun ls hl => ?_)
      refine lv_aload_n hx hb dX9_seen_73 rfl (lv_at hl 1 rfl) ?_
      refine s_get (C := RX9) (T := TX9) (N := 19) hx hb hts inX9 hown hK hS 0 rfl rfl 0 (by decide) (hts (.fieldLink RX9 7 "InnTurnedModel" "all" "[I") (List.mem_of_getElem? (i := 2) rfl)) rfl rfl dX9_seen_74 ?_
      refine lv_iload hx hb dX9_seen_77 (lv_at hl 0 rfl) ?_
      refine lv_iload_n hx hb dX9_seen_79 rfl (lv_at hl 2 rfl) ?_
      obtain ⟨g11, h⟩ := s_guard h
      refine s_iast (ws' := (wd_X9_seen cI cB cZ a_this a_all a_kept a_isKept a_refused a_hand a_outs a_order0 a_bestOrder a_tells a_bytes a_anew a_values (upd all (Int32.toNatClampNeg ((38 : Int32) + ((4 : Int32) * (all (Int32.toNatClampNeg (1 : Int32)))))) p1) refused above below_ bytesLong tokenAt tokenLong token value)) hx hb hK hS 1 rfl rfl g11 rfl dX9_seen_80 (fun H locs hS => ?_)
      refine lv_aload_n hx hb dX9_seen_81 rfl (lv_at hl 1 rfl) ?_
      refine s_get (C := RX9) (T := TX9) (N := 19) hx hb hts inX9 hown hK hS 0 rfl rfl 0 (by decide) (hts (.fieldLink RX9 7 "InnTurnedModel" "all" "[I") (List.mem_of_getElem? (i := 2) rfl)) rfl rfl dX9_seen_82 ?_
      refine lv_iload hx hb dX9_seen_85 (lv_at hl 0 rfl) ?_
      refine lv_iconst (v := (1 : Int32)) hx hb dX9_seen_87 (by decide) ?_
      refine lv_iadd hx hb dX9_seen_88 ?_
      refine lv_iload_n hx hb dX9_seen_89 rfl (lv_at hl 3 rfl) ?_
      obtain ⟨g12, h⟩ := s_guard h
      refine s_iast (ws' := (wd_X9_seen cI cB cZ a_this a_all a_kept a_isKept a_refused a_hand a_outs a_order0 a_bestOrder a_tells a_bytes a_anew a_values (upd (upd all (Int32.toNatClampNeg ((38 : Int32) + ((4 : Int32) * (all (Int32.toNatClampNeg (1 : Int32)))))) p1) (Int32.toNatClampNeg (((38 : Int32) + ((4 : Int32) * (all (Int32.toNatClampNeg (1 : Int32))))) + (1 : Int32))) p2) refused above below_ bytesLong tokenAt tokenLong token value)) hx hb hK hS 1 rfl rfl g12 rfl dX9_seen_90 (fun H locs hS => ?_)
      refine lv_aload_n hx hb dX9_seen_91 rfl (lv_at hl 1 rfl) ?_
      refine s_get (C := RX9) (T := TX9) (N := 19) hx hb hts inX9 hown hK hS 0 rfl rfl 0 (by decide) (hts (.fieldLink RX9 7 "InnTurnedModel" "all" "[I") (List.mem_of_getElem? (i := 2) rfl)) rfl rfl dX9_seen_92 ?_
      refine lv_iload hx hb dX9_seen_95 (lv_at hl 0 rfl) ?_
      refine lv_iconst (v := (2 : Int32)) hx hb dX9_seen_97 (by decide) ?_
      refine lv_iadd hx hb dX9_seen_98 ?_
      refine lv_iload_n hx hb dX9_seen_99 rfl (lv_at hl 4 rfl) ?_
      obtain ⟨g13, h⟩ := s_guard h
      refine s_iast (ws' := (wd_X9_seen cI cB cZ a_this a_all a_kept a_isKept a_refused a_hand a_outs a_order0 a_bestOrder a_tells a_bytes a_anew a_values (upd (upd (upd all (Int32.toNatClampNeg ((38 : Int32) + ((4 : Int32) * (all (Int32.toNatClampNeg (1 : Int32)))))) p1) (Int32.toNatClampNeg (((38 : Int32) + ((4 : Int32) * (all (Int32.toNatClampNeg (1 : Int32))))) + (1 : Int32))) p2) (Int32.toNatClampNeg (((38 : Int32) + ((4 : Int32) * (all (Int32.toNatClampNeg (1 : Int32))))) + (2 : Int32))) p3) refused above below_ bytesLong tokenAt tokenLong token value)) hx hb hK hS 1 rfl rfl g13 rfl dX9_seen_100 (fun H locs hS => ?_)
      refine lv_aload_n hx hb dX9_seen_101 rfl (lv_at hl 1 rfl) ?_
      refine s_get (C := RX9) (T := TX9) (N := 19) hx hb hts inX9 hown hK hS 0 rfl rfl 0 (by decide) (hts (.fieldLink RX9 7 "InnTurnedModel" "all" "[I") (List.mem_of_getElem? (i := 2) rfl)) rfl rfl dX9_seen_102 ?_
      refine lv_iload hx hb dX9_seen_105 (lv_at hl 0 rfl) ?_
      refine lv_iconst (v := (3 : Int32)) hx hb dX9_seen_107 (by decide) ?_
      refine lv_iadd hx hb dX9_seen_108 ?_
      refine lv_iload hx hb dX9_seen_109 (lv_at hl 5 rfl) ?_
      obtain ⟨g14, h⟩ := s_guard h
      refine s_iast (ws' := (wd_X9_seen cI cB cZ a_this a_all a_kept a_isKept a_refused a_hand a_outs a_order0 a_bestOrder a_tells a_bytes a_anew a_values (upd (upd (upd (upd all (Int32.toNatClampNeg ((38 : Int32) + ((4 : Int32) * (all (Int32.toNatClampNeg (1 : Int32)))))) p1) (Int32.toNatClampNeg (((38 : Int32) + ((4 : Int32) * (all (Int32.toNatClampNeg (1 : Int32))))) + (1 : Int32))) p2) (Int32.toNatClampNeg (((38 : Int32) + ((4 : Int32) * (all (Int32.toNatClampNeg (1 : Int32))))) + (2 : Int32))) p3) (Int32.toNatClampNeg (((38 : Int32) + ((4 : Int32) * (all (Int32.toNatClampNeg (1 : Int32))))) + (3 : Int32))) p4) refused above below_ bytesLong tokenAt tokenLong token value)) hx hb hK hS 1 rfl rfl g14 rfl dX9_seen_111 (fun H locs hS => ?_)
      refine lv_aload_n hx hb dX9_seen_112 rfl (lv_at hl 1 rfl) ?_
      refine s_get (C := RX9) (T := TX9) (N := 19) hx hb hts inX9 hown hK hS 0 rfl rfl 0 (by decide) (hts (.fieldLink RX9 7 "InnTurnedModel" "all" "[I") (List.mem_of_getElem? (i := 2) rfl)) rfl rfl dX9_seen_113 ?_
      refine lv_iconst (v := (1 : Int32)) hx hb dX9_seen_116 (by decide) ?_
      refine lv_dup2_11 hx hb dX9_seen_117 rfl rfl ?_
      refine s_iald hx hb hK hS 1 rfl rfl (by decide) dX9_seen_118 ?_
      refine lv_iconst (v := (1 : Int32)) hx hb dX9_seen_119 (by decide) ?_
      refine lv_iadd hx hb dX9_seen_120 ?_
      refine s_iast (ws' := (wd_X9_seen cI cB cZ a_this a_all a_kept a_isKept a_refused a_hand a_outs a_order0 a_bestOrder a_tells a_bytes a_anew a_values (upd (upd (upd (upd (upd all (Int32.toNatClampNeg ((38 : Int32) + ((4 : Int32) * (all (Int32.toNatClampNeg (1 : Int32)))))) p1) (Int32.toNatClampNeg (((38 : Int32) + ((4 : Int32) * (all (Int32.toNatClampNeg (1 : Int32))))) + (1 : Int32))) p2) (Int32.toNatClampNeg (((38 : Int32) + ((4 : Int32) * (all (Int32.toNatClampNeg (1 : Int32))))) + (2 : Int32))) p3) (Int32.toNatClampNeg (((38 : Int32) + ((4 : Int32) * (all (Int32.toNatClampNeg (1 : Int32))))) + (3 : Int32))) p4) (Int32.toNatClampNeg (1 : Int32)) (((upd (upd (upd (upd all (Int32.toNatClampNeg ((38 : Int32) + ((4 : Int32) * (all (Int32.toNatClampNeg (1 : Int32)))))) p1) (Int32.toNatClampNeg (((38 : Int32) + ((4 : Int32) * (all (Int32.toNatClampNeg (1 : Int32))))) + (1 : Int32))) p2) (Int32.toNatClampNeg (((38 : Int32) + ((4 : Int32) * (all (Int32.toNatClampNeg (1 : Int32))))) + (2 : Int32))) p3) (Int32.toNatClampNeg (((38 : Int32) + ((4 : Int32) * (all (Int32.toNatClampNeg (1 : Int32))))) + (3 : Int32))) p4) (Int32.toNatClampNeg (1 : Int32))) + (1 : Int32))) refused above below_ bytesLong tokenAt tokenLong token value)) hx hb hK hS 1 rfl rfl (by decide) rfl dX9_seen_121 (fun H locs hS => ?_)
      refine lv_aload_n hx hb dX9_seen_122 rfl (lv_at hl 1 rfl) ?_
      refine s_get (C := RX9) (T := TX9) (N := 19) hx hb hts inX9 hown hK hS 0 rfl rfl 0 (by decide) (hts (.fieldLink RX9 7 "InnTurnedModel" "all" "[I") (List.mem_of_getElem? (i := 2) rfl)) rfl rfl dX9_seen_123 ?_
      refine lv_iconst (v := (1 : Int32)) hx hb dX9_seen_126 (by decide) ?_
      refine s_iald hx hb hK hS 1 rfl rfl (by decide) dX9_seen_127 ?_
      obtain rfl := Option.some.inj h
      exact hend _ _ _ _ dX9_seen_128 hS
    replace h := s_yes c10 h
    refine lv_aload_n hx hb dX9_seen_55 rfl (lv_at hl 0 rfl) ?_
    obtain ⟨q15, hq15, h⟩ := s_bind h
    refine r_calliV (r := q15.1) (As := []) (rest := []) (wc := (wd_X9_full cI cB cZ a_this a_all a_kept a_isKept a_refused a_hand a_outs a_order0 a_bestOrder a_tells a_bytes a_anew a_values refused above below_ bytesLong tokenAt tokenLong token value)) (w1 := (wd_X9_full cI cB cZ a_this a_all a_kept a_isKept a_refused a_hand a_outs a_order0 a_bestOrder a_tells a_bytes a_anew a_values q15.2 above below_ bytesLong tokenAt tokenLong token value)) (ws' := (wd_X9_seen cI cB cZ a_this a_all a_kept a_isKept a_refused a_hand a_outs a_order0 a_bestOrder a_tells a_bytes a_anew a_values all q15.2 above below_ bytesLong tokenAt tokenLong token value)) hx hb hml hown hts hK hA hl hS (c_X9_full l D cI cB cZ a_this a_all a_kept a_isKept a_refused a_hand a_outs a_order0 a_bestOrder a_tells a_bytes a_anew a_values refused above below_ bytesLong tokenAt tokenLong token value _ _ hq15) (cwV 0 hts gX9_seen_X9_full rfl rfl rfl (by decide +kernel) ⟨Nat.le_of_ble_eq_true rfl, Nat.le_of_ble_eq_true rfl⟩) 0 rfl rfl [0, 2] rfl rfl rfl [.inr 0, .inl 1, .inr 1] rfl rfl rfl rfl (Nat.le_of_ble_eq_true rfl) dX9_seen_56 (fun H locs hS => ?_)
    obtain rfl := Option.some.inj h
    exact hend _ _ _ _ dX9_seen_59 hS
  replace h := s_yes c9 h
  exact w_X9_seen_b38 C0 hend  all refused _ _ _ h hS (lv_sub hl [0] rfl)

-- InnTurnedModel.isInBy(IIII)Z
def wd_X9_isInBy (cI cB cZ : ClassId) (a_this : Nat) (a_all : Nat) (a_kept : Nat) (a_isKept : Nat) (a_refused : Nat) (a_hand : Nat) (a_outs : Nat) (a_order0 : Nat) (a_bestOrder : Nat) (a_tells : Nat) (a_bytes : Nat) (a_anew : Nat) (a_values : Nat)  (all : (Nat → Int32)) (above : Int64) (below_ : Int64) (bytesLong : Int32) (tokenAt : Int32) (tokenLong : Int32) (token : Int32) (value : Int32) : va_W := [(a_this, .inr (6, [.ref a_all, .ref a_kept, .ref a_isKept, .ref a_refused, .long above, .long below_, .ref a_hand, .ref a_outs, .ref a_order0, .ref a_bestOrder, .ref a_tells, .ref a_bytes, .int bytesLong, .int tokenAt, .int tokenLong, .int token, .int value, .ref a_anew, .ref a_values])), (a_all, .inl (cI, 250, .inl all))]
abbrev rm_X9_isInBy : Room := { frames := 1, cells := 0, slots := 0, locals := 25 }
set_option maxRecDepth 20000 in
theorem inX9_X9_isInBy : ∀ w ∈ u_ws RX9 TX9 19, w ∈ wsX9_isInBy := by decide +kernel
def f_X9_isInBy  (all : (Nat → Int32))  (p1 : Int32) (p2 : Int32) (p3 : Int32) (p4 : Int32) : Option (Int32) := (if ¬ (((31 : Int32) + p1) < 0 ∨ 250 ≤ (Int32.toNatClampNeg ((31 : Int32) + p1))) then ((f_X9_likelyAs (all (Int32.toNatClampNeg ((31 : Int32) + p1))) p2 p3 p4).bind fun q2 => ((f_X9_wetOf 250 all p4).bind fun q3 => ((f_X9_passesAs (all (Int32.toNatClampNeg (23 : Int32))) q3 (0 : Int32)).bind fun q4 => (if q4 < q2 then some ((0 : Int32)) else some ((1 : Int32)))))) else none)
set_option maxHeartbeats 4000000 in
set_option maxRecDepth 100000 in
theorem c_X9_isInBy (l : Launch) (D : va_G) (cI cB cZ : ClassId) (a_this : Nat) (a_all : Nat) (a_kept : Nat) (a_isKept : Nat) (a_refused : Nat) (a_hand : Nat) (a_outs : Nat) (a_order0 : Nat) (a_bestOrder : Nat) (a_tells : Nat) (a_bytes : Nat) (a_anew : Nat) (a_values : Nat) (all : (Nat → Int32)) (above : Int64) (below_ : Int64) (bytesLong : Int32) (tokenAt : Int32) (tokenLong : Int32) (token : Int32) (value : Int32) (p1 : Int32) (p2 : Int32) (p3 : Int32) (p4 : Int32) (rv : Int32) (sz : Nat) (hf : f_X9_isInBy all p1 p2 p3 p4 = some rv) : Met l yX9_isInBy wsX9_isInBy rm_X9_isInBy (sPc D vwCl (s_tys cI cB cZ) [.ref a_this, .int p1, .int p2, .int p3, .int p4] (wd_X9_isInBy cI cB cZ a_this a_all a_kept a_isKept a_refused a_hand a_outs a_order0 a_bestOrder a_tells a_bytes a_anew a_values all above below_ bytesLong tokenAt tokenLong token value) sz) (sQi D vwCl (wd_X9_isInBy cI cB cZ a_this a_all a_kept a_isKept a_refused a_hand a_outs a_order0 a_bestOrder a_tells a_bytes a_anew a_values all above below_ bytesLong tokenAt tokenLong token value) (wd_X9_isInBy cI cB cZ a_this a_all a_kept a_isKept a_refused a_hand a_outs a_order0 a_bestOrder a_tells a_bytes a_anew a_values all above below_ bytesLong tokenAt tokenLong token value) sz rv) 0 0 (va_A (wd_X9_isInBy cI cB cZ a_this a_all a_kept a_isKept a_refused a_hand a_outs a_order0 a_bestOrder a_tells a_bytes a_anew a_values all above below_ bytesLong tokenAt tokenLong token value) sz) := by
  refine s_enter_z (cc := cX9_isInBy) (nL := 5) (r := rv) (by decide) rfl (Nat.le_of_ble_eq_true rfl) ?_
  intro p e s m args below meth c A Q C0 hend ls hl hS
  have h := hf
  clear hf
  replace hl : lv_has ls 5 [(0, .ref a_this), (1, .int p1), (2, .int p2), (3, .int p3), (4, .int p4)] := hl
  unfold f_X9_isInBy at h
  obtain ⟨hx, hb, hml, hown, hts, hK, hA⟩ := id C0
  have inX9 : ∀ w ∈ u_ws RX9 TX9 19, w ∈ wsX9_isInBy := inX9_X9_isInBy
  refine lv_aload_n hx hb dX9_isInBy_0 rfl (lv_at hl 0 rfl) ?_
  refine s_get (C := RX9) (T := TX9) (N := 19) hx hb hts inX9 hown hK hS 0 rfl rfl 0 (by decide) (hts (.fieldLink RX9 7 "InnTurnedModel" "all" "[I") (List.mem_of_getElem? (i := 1) rfl)) rfl rfl dX9_isInBy_1 ?_
  refine lv_bipush (v := (31 : Int32)) hx hb dX9_isInBy_4 (by decide) ?_
  refine lv_iload_n hx hb dX9_isInBy_6 rfl (lv_at hl 1 rfl) ?_
  refine lv_iadd hx hb dX9_isInBy_7 ?_
  obtain ⟨g1, h⟩ := s_guard h
  refine s_iald hx hb hK hS 1 rfl rfl g1 dX9_isInBy_8 ?_
  refine lv_iload_n hx hb dX9_isInBy_9 rfl (lv_at hl 2 rfl) ?_
  refine lv_iload_n hx hb dX9_isInBy_10 rfl (lv_at hl 3 rfl) ?_
  refine lv_iload hx hb dX9_isInBy_11 (lv_at hl 4 rfl) ?_
  obtain ⟨q2, hq2, h⟩ := s_bind h
  refine u_calliS (r := q2) (As := [.int (all (Int32.toNatClampNeg ((31 : Int32) + p1))), .int p2, .int p3, .int p4]) (rest := []) (wc := ([] : va_W)) hx hb hml hown hts hK hA hl hS (c_X9_likelyAs l D cI cB cZ (all (Int32.toNatClampNeg ((31 : Int32) + p1))) p2 p3 p4 _ _ hq2) (va_cwS 4 hts gX9_isInBy_X9_likelyAs rfl rfl rfl (by decide +kernel) ⟨Nat.le_of_ble_eq_true rfl, Nat.le_of_ble_eq_true rfl⟩) [] rfl rfl rfl rfl (Nat.le_of_ble_eq_true rfl) dX9_isInBy_13 (fun H locs hS => ?_)
  refine lv_aload_n hx hb dX9_isInBy_16 rfl (lv_at hl 0 rfl) ?_
  refine s_get (C := RX9) (T := TX9) (N := 19) hx hb hts inX9 hown hK hS 0 rfl rfl 0 (by decide) (hts (.fieldLink RX9 7 "InnTurnedModel" "all" "[I") (List.mem_of_getElem? (i := 1) rfl)) rfl rfl dX9_isInBy_17 ?_
  refine lv_bipush (v := (23 : Int32)) hx hb dX9_isInBy_20 (by decide) ?_
  refine s_iald hx hb hK hS 1 rfl rfl (by decide) dX9_isInBy_22 ?_
  refine lv_aload_n hx hb dX9_isInBy_23 rfl (lv_at hl 0 rfl) ?_
  refine s_get (C := RX9) (T := TX9) (N := 19) hx hb hts inX9 hown hK hS 0 rfl rfl 0 (by decide) (hts (.fieldLink RX9 7 "InnTurnedModel" "all" "[I") (List.mem_of_getElem? (i := 1) rfl)) rfl rfl dX9_isInBy_24 ?_
  refine lv_iload hx hb dX9_isInBy_27 (lv_at hl 4 rfl) ?_
  obtain ⟨q3, hq3, h⟩ := s_bind h
  refine u_calliS (r := q3) (As := [.ref a_all, .int p4]) (rest := [.int (all (Int32.toNatClampNeg (23 : Int32))), .int q2]) (wc := (wd_X9_wetOf cI cB cZ a_all 250 all)) hx hb hml hown hts hK hA hl hS (c_X9_wetOf l D cI cB cZ a_all 250 all p4 _ _ hq3) (va_cwS 2 hts gX9_isInBy_X9_wetOf rfl rfl rfl (by decide +kernel) ⟨Nat.le_of_ble_eq_true rfl, Nat.le_of_ble_eq_true rfl⟩) [1] rfl rfl rfl rfl (Nat.le_of_ble_eq_true rfl) dX9_isInBy_29 (fun H locs hS => ?_)
  refine lv_iconst (v := (0 : Int32)) hx hb dX9_isInBy_32 (by decide) ?_
  obtain ⟨q4, hq4, h⟩ := s_bind h
  refine u_calliS (r := q4) (As := [.int (all (Int32.toNatClampNeg (23 : Int32))), .int q3, .int (0 : Int32)]) (rest := [.int q2]) (wc := ([] : va_W)) hx hb hml hown hts hK hA hl hS (c_X9_passesAs l D cI cB cZ (all (Int32.toNatClampNeg (23 : Int32))) q3 (0 : Int32) _ _ hq4) (va_cwS 3 hts gX9_isInBy_X9_passesAs rfl rfl rfl (by decide +kernel) ⟨Nat.le_of_ble_eq_true rfl, Nat.le_of_ble_eq_true rfl⟩) [] rfl rfl rfl rfl (Nat.le_of_ble_eq_true rfl) dX9_isInBy_33 (fun H locs hS => ?_)
  refine lv_icmp_gt (tgt := 43) hx hb dX9_isInBy_36 (by decide) (fun c5 => ?_) (fun c5 => ?_)
  · replace h := s_yes c5 h
    refine lv_iconst (v := (0 : Int32)) hx hb dX9_isInBy_43 (by decide) ?_
    obtain rfl := Option.some.inj h
    exact hend _ _ _ _ dX9_isInBy_44 (Or.inl rfl) hS
  replace h := s_no c5 h
  refine lv_iconst (v := (1 : Int32)) hx hb dX9_isInBy_39 (by decide) ?_
  refine lv_goto (tgt := 44) hx hb dX9_isInBy_40 (by decide) ?_
  obtain rfl := Option.some.inj h
  exact hend _ _ _ _ dX9_isInBy_44 (Or.inr rfl) hS

-- InnTurnedModel.isOften(II)Z
def wd_X9_isOften (cI cB cZ : ClassId) (a_this : Nat) (a_all : Nat) (a_kept : Nat) (a_isKept : Nat) (a_refused : Nat) (a_hand : Nat) (a_outs : Nat) (a_order0 : Nat) (a_bestOrder : Nat) (a_tells : Nat) (a_bytes : Nat) (a_anew : Nat) (a_values : Nat)  (all : (Nat → Int32)) (above : Int64) (below_ : Int64) (bytesLong : Int32) (tokenAt : Int32) (tokenLong : Int32) (token : Int32) (value : Int32) : va_W := [(a_this, .inr (6, [.ref a_all, .ref a_kept, .ref a_isKept, .ref a_refused, .long above, .long below_, .ref a_hand, .ref a_outs, .ref a_order0, .ref a_bestOrder, .ref a_tells, .ref a_bytes, .int bytesLong, .int tokenAt, .int tokenLong, .int token, .int value, .ref a_anew, .ref a_values])), (a_all, .inl (cI, 250, .inl all))]
abbrev rm_X9_isOften : Room := { frames := 2, cells := 0, slots := 0, locals := 49 }
set_option maxRecDepth 20000 in
theorem inX9_X9_isOften : ∀ w ∈ u_ws RX9 TX9 19, w ∈ wsX9_isOften := by decide +kernel
def f_X9_isOften_b90 (k_b5 : Int32 → Int32 → Int32 → Int32 → Option (Int32))  (all : (Nat → Int32))  (l1 : Int32) (l2 : Int32) (l4 : Int32) (t0 : Int32) : Option (Int32) := k_b5 l1 l2 t0 (l4 + (1 : Int32))
set_option maxHeartbeats 4000000 in
set_option maxRecDepth 100000 in
theorem w_X9_isOften_b90 {p : Program} {l : Launch} {e : Env} {s : State} {m : MethodId} {args : Array Value} {below : List Frame} {meth : Method} {c : Code} {A : Nat → Prop} {Q : State → Prop} {D : va_G} {cI cB cZ : ClassId} {a_this a_all a_kept a_isKept a_refused a_hand a_outs a_order0 a_bestOrder a_tells a_bytes a_anew a_values : Nat} {all : (Nat → Int32)} {above : Int64} {below_ : Int64} {bytesLong : Int32} {tokenAt : Int32} {tokenLong : Int32} {token : Int32} {value : Int32} (C0 : Cx p s m args c cX9_isOften 6 RX9 wsX9_isOften D (s_tys cI cB cZ) A) {rv : Int32} (hend : ∀ (pc : Nat) (H : Heap) (locs : List Loc) (ls : Array Slot), decode cX9_isOften pc = .ok (.ireturn, 1) → (rv = 0 ∨ rv = 1) → sS D vwCl A s.heap (wd_X9_isOften cI cB cZ a_this a_all a_kept a_isKept a_refused a_hand a_outs a_order0 a_bestOrder a_tells a_bytes a_anew a_values all above below_ bytesLong tokenAt tokenLong token value) H locs → W p l e rm_X9_isOften s m args below meth c H locs 0 0 Q (F0 m pc ls [.int rv])) (k_b5 : Int32 → Int32 → Int32 → Int32 → Option (Int32)) (hk_b5 : ∀  (l1 : Int32) (l2 : Int32) (l3 : Int32) (l4 : Int32) (H : Heap) (locs : List Loc) (ls : Array Slot), k_b5 l1 l2 l3 l4 = some rv → sS D vwCl A s.heap (wd_X9_isOften cI cB cZ a_this a_all a_kept a_isKept a_refused a_hand a_outs a_order0 a_bestOrder a_tells a_bytes a_anew a_values all above below_ bytesLong tokenAt tokenLong token value) H locs → lv_has ls 6 [(0, .ref a_this), (1, .int l1), (2, .int l2), (3, .int l3), (4, .int l4)] → W p l e rm_X9_isOften s m args below meth c H locs 0 0 Q (F0 m 5 ls [])) : ∀  (l1 : Int32) (l2 : Int32) (l4 : Int32) (t0 : Int32) (H : Heap) (locs : List Loc) (ls : Array Slot), f_X9_isOften_b90 k_b5 all l1 l2 l4 t0 = some rv → sS D vwCl A s.heap (wd_X9_isOften cI cB cZ a_this a_all a_kept a_isKept a_refused a_hand a_outs a_order0 a_bestOrder a_tells a_bytes a_anew a_values all above below_ bytesLong tokenAt tokenLong token value) H locs → lv_has ls 6 [(0, .ref a_this), (1, .int l1), (2, .int l2), (4, .int l4)] → W p l e rm_X9_isOften s m args below meth c H locs 0 0 Q (F0 m 90 ls [.int t0]) := by
  obtain ⟨hx, hb, hml, hown, hts, hK, hA⟩ := id C0
  have inX9 : ∀ w ∈ u_ws RX9 TX9 19, w ∈ wsX9_isOften := inX9_X9_isOften
  intro l1 l2 l4 t0 H locs ls h hS hl
  unfold f_X9_isOften_b90 at h
  refine lv_istore_n (lv' := [(3, .int t0), (0, .ref a_this), (1, .int l1), (2, .int l2), (4, .int l4)]) hx hb dX9_isOften_90 rfl hl (by decide) rfl (fun ls hl => ?_)
  refine lv_iinc (v := (l4 + (1 : Int32))) (lv' := [(4, .int (l4 + (1 : Int32))), (3, .int t0), (0, .ref a_this), (1, .int l1), (2, .int l2)]) hx hb dX9_isOften_91 hl (k := 4) rfl rfl (by decide) rfl (fun ls hl => ?_)
  refine lv_goto (tgt := 5) hx hb dX9_isOften_94 (by decide) ?_
  exact hk_b5 l1 l2 t0 (l4 + (1 : Int32)) _ _ _ h hS (lv_sub hl [2, 3, 4, 1, 0] rfl)
def f_X9_isOften_b89 (k_b5 : Int32 → Int32 → Int32 → Int32 → Option (Int32))  (all : (Nat → Int32))  (l1 : Int32) (l2 : Int32) (l4 : Int32) : Option (Int32) := f_X9_isOften_b90 k_b5 all l1 l2 l4 (0 : Int32)
set_option maxHeartbeats 4000000 in
set_option maxRecDepth 100000 in
theorem w_X9_isOften_b89 {p : Program} {l : Launch} {e : Env} {s : State} {m : MethodId} {args : Array Value} {below : List Frame} {meth : Method} {c : Code} {A : Nat → Prop} {Q : State → Prop} {D : va_G} {cI cB cZ : ClassId} {a_this a_all a_kept a_isKept a_refused a_hand a_outs a_order0 a_bestOrder a_tells a_bytes a_anew a_values : Nat} {all : (Nat → Int32)} {above : Int64} {below_ : Int64} {bytesLong : Int32} {tokenAt : Int32} {tokenLong : Int32} {token : Int32} {value : Int32} (C0 : Cx p s m args c cX9_isOften 6 RX9 wsX9_isOften D (s_tys cI cB cZ) A) {rv : Int32} (hend : ∀ (pc : Nat) (H : Heap) (locs : List Loc) (ls : Array Slot), decode cX9_isOften pc = .ok (.ireturn, 1) → (rv = 0 ∨ rv = 1) → sS D vwCl A s.heap (wd_X9_isOften cI cB cZ a_this a_all a_kept a_isKept a_refused a_hand a_outs a_order0 a_bestOrder a_tells a_bytes a_anew a_values all above below_ bytesLong tokenAt tokenLong token value) H locs → W p l e rm_X9_isOften s m args below meth c H locs 0 0 Q (F0 m pc ls [.int rv])) (k_b5 : Int32 → Int32 → Int32 → Int32 → Option (Int32)) (hk_b5 : ∀  (l1 : Int32) (l2 : Int32) (l3 : Int32) (l4 : Int32) (H : Heap) (locs : List Loc) (ls : Array Slot), k_b5 l1 l2 l3 l4 = some rv → sS D vwCl A s.heap (wd_X9_isOften cI cB cZ a_this a_all a_kept a_isKept a_refused a_hand a_outs a_order0 a_bestOrder a_tells a_bytes a_anew a_values all above below_ bytesLong tokenAt tokenLong token value) H locs → lv_has ls 6 [(0, .ref a_this), (1, .int l1), (2, .int l2), (3, .int l3), (4, .int l4)] → W p l e rm_X9_isOften s m args below meth c H locs 0 0 Q (F0 m 5 ls [])) : ∀  (l1 : Int32) (l2 : Int32) (l4 : Int32) (H : Heap) (locs : List Loc) (ls : Array Slot), f_X9_isOften_b89 k_b5 all l1 l2 l4 = some rv → sS D vwCl A s.heap (wd_X9_isOften cI cB cZ a_this a_all a_kept a_isKept a_refused a_hand a_outs a_order0 a_bestOrder a_tells a_bytes a_anew a_values all above below_ bytesLong tokenAt tokenLong token value) H locs → lv_has ls 6 [(0, .ref a_this), (1, .int l1), (2, .int l2), (4, .int l4)] → W p l e rm_X9_isOften s m args below meth c H locs 0 0 Q (F0 m 89 ls []) := by
  obtain ⟨hx, hb, hml, hown, hts, hK, hA⟩ := id C0
  have inX9 : ∀ w ∈ u_ws RX9 TX9 19, w ∈ wsX9_isOften := inX9_X9_isOften
  intro l1 l2 l4 H locs ls h hS hl
  unfold f_X9_isOften_b89 at h
  refine lv_iconst (v := (0 : Int32)) hx hb dX9_isOften_89 (by decide) ?_
  exact w_X9_isOften_b90 C0 hend k_b5 hk_b5 l1 l2 l4 (0 : Int32) _ _ _ h hS (lv_sub hl [0, 1, 2, 3] rfl)
def f_X9_isOften_b85 (k_b5 : Int32 → Int32 → Int32 → Int32 → Option (Int32))  (all : (Nat → Int32))  (l1 : Int32) (l2 : Int32) (l4 : Int32) : Option (Int32) := f_X9_isOften_b90 k_b5 all l1 l2 l4 (1 : Int32)
set_option maxHeartbeats 4000000 in
set_option maxRecDepth 100000 in
theorem w_X9_isOften_b85 {p : Program} {l : Launch} {e : Env} {s : State} {m : MethodId} {args : Array Value} {below : List Frame} {meth : Method} {c : Code} {A : Nat → Prop} {Q : State → Prop} {D : va_G} {cI cB cZ : ClassId} {a_this a_all a_kept a_isKept a_refused a_hand a_outs a_order0 a_bestOrder a_tells a_bytes a_anew a_values : Nat} {all : (Nat → Int32)} {above : Int64} {below_ : Int64} {bytesLong : Int32} {tokenAt : Int32} {tokenLong : Int32} {token : Int32} {value : Int32} (C0 : Cx p s m args c cX9_isOften 6 RX9 wsX9_isOften D (s_tys cI cB cZ) A) {rv : Int32} (hend : ∀ (pc : Nat) (H : Heap) (locs : List Loc) (ls : Array Slot), decode cX9_isOften pc = .ok (.ireturn, 1) → (rv = 0 ∨ rv = 1) → sS D vwCl A s.heap (wd_X9_isOften cI cB cZ a_this a_all a_kept a_isKept a_refused a_hand a_outs a_order0 a_bestOrder a_tells a_bytes a_anew a_values all above below_ bytesLong tokenAt tokenLong token value) H locs → W p l e rm_X9_isOften s m args below meth c H locs 0 0 Q (F0 m pc ls [.int rv])) (k_b5 : Int32 → Int32 → Int32 → Int32 → Option (Int32)) (hk_b5 : ∀  (l1 : Int32) (l2 : Int32) (l3 : Int32) (l4 : Int32) (H : Heap) (locs : List Loc) (ls : Array Slot), k_b5 l1 l2 l3 l4 = some rv → sS D vwCl A s.heap (wd_X9_isOften cI cB cZ a_this a_all a_kept a_isKept a_refused a_hand a_outs a_order0 a_bestOrder a_tells a_bytes a_anew a_values all above below_ bytesLong tokenAt tokenLong token value) H locs → lv_has ls 6 [(0, .ref a_this), (1, .int l1), (2, .int l2), (3, .int l3), (4, .int l4)] → W p l e rm_X9_isOften s m args below meth c H locs 0 0 Q (F0 m 5 ls [])) : ∀  (l1 : Int32) (l2 : Int32) (l4 : Int32) (H : Heap) (locs : List Loc) (ls : Array Slot), f_X9_isOften_b85 k_b5 all l1 l2 l4 = some rv → sS D vwCl A s.heap (wd_X9_isOften cI cB cZ a_this a_all a_kept a_isKept a_refused a_hand a_outs a_order0 a_bestOrder a_tells a_bytes a_anew a_values all above below_ bytesLong tokenAt tokenLong token value) H locs → lv_has ls 6 [(0, .ref a_this), (1, .int l1), (2, .int l2), (4, .int l4)] → W p l e rm_X9_isOften s m args below meth c H locs 0 0 Q (F0 m 85 ls []) := by
  obtain ⟨hx, hb, hml, hown, hts, hK, hA⟩ := id C0
  have inX9 : ∀ w ∈ u_ws RX9 TX9 19, w ∈ wsX9_isOften := inX9_X9_isOften
  intro l1 l2 l4 H locs ls h hS hl
  unfold f_X9_isOften_b85 at h
  refine lv_iconst (v := (1 : Int32)) hx hb dX9_isOften_85 (by decide) ?_
  refine lv_goto (tgt := 90) hx hb dX9_isOften_86 (by decide) ?_
  exact w_X9_isOften_b90 C0 hend k_b5 hk_b5 l1 l2 l4 (1 : Int32) _ _ _ h hS (lv_sub hl [0, 1, 2, 3] rfl)
def f_X9_isOften_b82 (k_b5 : Int32 → Int32 → Int32 → Int32 → Option (Int32))  (all : (Nat → Int32))  (l1 : Int32) (l2 : Int32) (l4 : Int32) (t0 : Int32) (t1 : Int32) : Option (Int32) := (if t1 = t0 then f_X9_isOften_b85 k_b5 all l1 l2 l4 else f_X9_isOften_b89 k_b5 all l1 l2 l4)
set_option maxHeartbeats 4000000 in
set_option maxRecDepth 100000 in
theorem w_X9_isOften_b82 {p : Program} {l : Launch} {e : Env} {s : State} {m : MethodId} {args : Array Value} {below : List Frame} {meth : Method} {c : Code} {A : Nat → Prop} {Q : State → Prop} {D : va_G} {cI cB cZ : ClassId} {a_this a_all a_kept a_isKept a_refused a_hand a_outs a_order0 a_bestOrder a_tells a_bytes a_anew a_values : Nat} {all : (Nat → Int32)} {above : Int64} {below_ : Int64} {bytesLong : Int32} {tokenAt : Int32} {tokenLong : Int32} {token : Int32} {value : Int32} (C0 : Cx p s m args c cX9_isOften 6 RX9 wsX9_isOften D (s_tys cI cB cZ) A) {rv : Int32} (hend : ∀ (pc : Nat) (H : Heap) (locs : List Loc) (ls : Array Slot), decode cX9_isOften pc = .ok (.ireturn, 1) → (rv = 0 ∨ rv = 1) → sS D vwCl A s.heap (wd_X9_isOften cI cB cZ a_this a_all a_kept a_isKept a_refused a_hand a_outs a_order0 a_bestOrder a_tells a_bytes a_anew a_values all above below_ bytesLong tokenAt tokenLong token value) H locs → W p l e rm_X9_isOften s m args below meth c H locs 0 0 Q (F0 m pc ls [.int rv])) (k_b5 : Int32 → Int32 → Int32 → Int32 → Option (Int32)) (hk_b5 : ∀  (l1 : Int32) (l2 : Int32) (l3 : Int32) (l4 : Int32) (H : Heap) (locs : List Loc) (ls : Array Slot), k_b5 l1 l2 l3 l4 = some rv → sS D vwCl A s.heap (wd_X9_isOften cI cB cZ a_this a_all a_kept a_isKept a_refused a_hand a_outs a_order0 a_bestOrder a_tells a_bytes a_anew a_values all above below_ bytesLong tokenAt tokenLong token value) H locs → lv_has ls 6 [(0, .ref a_this), (1, .int l1), (2, .int l2), (3, .int l3), (4, .int l4)] → W p l e rm_X9_isOften s m args below meth c H locs 0 0 Q (F0 m 5 ls [])) : ∀  (l1 : Int32) (l2 : Int32) (l4 : Int32) (t0 : Int32) (t1 : Int32) (H : Heap) (locs : List Loc) (ls : Array Slot), f_X9_isOften_b82 k_b5 all l1 l2 l4 t0 t1 = some rv → sS D vwCl A s.heap (wd_X9_isOften cI cB cZ a_this a_all a_kept a_isKept a_refused a_hand a_outs a_order0 a_bestOrder a_tells a_bytes a_anew a_values all above below_ bytesLong tokenAt tokenLong token value) H locs → lv_has ls 6 [(0, .ref a_this), (1, .int l1), (2, .int l2), (4, .int l4)] → W p l e rm_X9_isOften s m args below meth c H locs 0 0 Q (F0 m 82 ls [.int t0, .int t1]) := by
  obtain ⟨hx, hb, hml, hown, hts, hK, hA⟩ := id C0
  have inX9 : ∀ w ∈ u_ws RX9 TX9 19, w ∈ wsX9_isOften := inX9_X9_isOften
  intro l1 l2 l4 t0 t1 H locs ls h hS hl
  unfold f_X9_isOften_b82 at h
  refine lv_icmp_ne (tgt := 89) hx hb dX9_isOften_82 (by decide) (fun c1 => ?_) (fun c1 => ?_)
  · replace h := s_no c1 h
    exact w_X9_isOften_b89 C0 hend k_b5 hk_b5 l1 l2 l4 _ _ _ h hS (lv_sub hl [0, 1, 2, 3] rfl)
  replace h := s_yes c1 h
  exact w_X9_isOften_b85 C0 hend k_b5 hk_b5 l1 l2 l4 _ _ _ h hS (lv_sub hl [0, 1, 2, 3] rfl)
def f_X9_isOften_b5  (all : (Nat → Int32)) : Nat → Int32 → Int32 → Int32 → Int32 → Option (Int32)
  | 0, _, _, _, _ => none
  | fu + 1, l1, l2, l3, l4 => (if (all (Int32.toNatClampNeg (1 : Int32))) ≤ l4 then (if l3 = 0 ∨ l3 = 1 then some (l3) else none) else (if l3 = 0 then f_X9_isOften_b89 (f_X9_isOften_b5 all fu) all l1 l2 l4 else (if ¬ (((38 : Int32) + ((4 : Int32) * l4)) < 0 ∨ 250 ≤ (Int32.toNatClampNeg ((38 : Int32) + ((4 : Int32) * l4)))) then (if (all (Int32.toNatClampNeg ((38 : Int32) + ((4 : Int32) * l4)))) = l1 then (if ¬ ((((38 : Int32) + ((4 : Int32) * l4)) + (1 : Int32)) < 0 ∨ 250 ≤ (Int32.toNatClampNeg (((38 : Int32) + ((4 : Int32) * l4)) + (1 : Int32)))) then (if ¬ ((((38 : Int32) + ((4 : Int32) * l4)) + (2 : Int32)) < 0 ∨ 250 ≤ (Int32.toNatClampNeg (((38 : Int32) + ((4 : Int32) * l4)) + (2 : Int32)))) then ((f_X9_isInBy all l1 (all (Int32.toNatClampNeg (((38 : Int32) + ((4 : Int32) * l4)) + (1 : Int32)))) l2 (all (Int32.toNatClampNeg (((38 : Int32) + ((4 : Int32) * l4)) + (2 : Int32))))).bind fun q9 => (if ¬ ((((38 : Int32) + ((4 : Int32) * l4)) + (3 : Int32)) < 0 ∨ 250 ≤ (Int32.toNatClampNeg (((38 : Int32) + ((4 : Int32) * l4)) + (3 : Int32)))) then (if (all (Int32.toNatClampNeg (((38 : Int32) + ((4 : Int32) * l4)) + (3 : Int32)))) = (1 : Int32) then f_X9_isOften_b82 (f_X9_isOften_b5 all fu) all l1 l2 l4 (1 : Int32) q9 else f_X9_isOften_b82 (f_X9_isOften_b5 all fu) all l1 l2 l4 (0 : Int32) q9) else none)) else none) else none) else f_X9_isOften_b85 (f_X9_isOften_b5 all fu) all l1 l2 l4) else none)))
set_option maxHeartbeats 4000000 in
set_option maxRecDepth 100000 in
theorem w_X9_isOften_b5 {p : Program} {l : Launch} {e : Env} {s : State} {m : MethodId} {args : Array Value} {below : List Frame} {meth : Method} {c : Code} {A : Nat → Prop} {Q : State → Prop} {D : va_G} {cI cB cZ : ClassId} {a_this a_all a_kept a_isKept a_refused a_hand a_outs a_order0 a_bestOrder a_tells a_bytes a_anew a_values : Nat} {all : (Nat → Int32)} {above : Int64} {below_ : Int64} {bytesLong : Int32} {tokenAt : Int32} {tokenLong : Int32} {token : Int32} {value : Int32} (C0 : Cx p s m args c cX9_isOften 6 RX9 wsX9_isOften D (s_tys cI cB cZ) A) {rv : Int32} (hend : ∀ (pc : Nat) (H : Heap) (locs : List Loc) (ls : Array Slot), decode cX9_isOften pc = .ok (.ireturn, 1) → (rv = 0 ∨ rv = 1) → sS D vwCl A s.heap (wd_X9_isOften cI cB cZ a_this a_all a_kept a_isKept a_refused a_hand a_outs a_order0 a_bestOrder a_tells a_bytes a_anew a_values all above below_ bytesLong tokenAt tokenLong token value) H locs → W p l e rm_X9_isOften s m args below meth c H locs 0 0 Q (F0 m pc ls [.int rv])) : ∀ (fu : Nat)  (l1 : Int32) (l2 : Int32) (l3 : Int32) (l4 : Int32) (H : Heap) (locs : List Loc) (ls : Array Slot), f_X9_isOften_b5 all fu l1 l2 l3 l4 = some rv → sS D vwCl A s.heap (wd_X9_isOften cI cB cZ a_this a_all a_kept a_isKept a_refused a_hand a_outs a_order0 a_bestOrder a_tells a_bytes a_anew a_values all above below_ bytesLong tokenAt tokenLong token value) H locs → lv_has ls 6 [(0, .ref a_this), (1, .int l1), (2, .int l2), (3, .int l3), (4, .int l4)] → W p l e rm_X9_isOften s m args below meth c H locs 0 0 Q (F0 m 5 ls []) := by
  obtain ⟨hx, hb, hml, hown, hts, hK, hA⟩ := id C0
  have inX9 : ∀ w ∈ u_ws RX9 TX9 19, w ∈ wsX9_isOften := inX9_X9_isOften
  intro fu
  induction fu with
  | zero => intro l1 l2 l3 l4 H locs ls h; cases h
  | succ fu ih =>
    intro l1 l2 l3 l4 H locs ls h hS hl
    rw [f_X9_isOften_b5] at h
    refine lv_iload hx hb dX9_isOften_5 (lv_at hl 4 rfl) ?_
    refine lv_aload_n hx hb dX9_isOften_7 rfl (lv_at hl 0 rfl) ?_
    refine s_get (C := RX9) (T := TX9) (N := 19) hx hb hts inX9 hown hK hS 0 rfl rfl 0 (by decide) (hts (.fieldLink RX9 7 "InnTurnedModel" "all" "[I") (List.mem_of_getElem? (i := 1) rfl)) rfl rfl dX9_isOften_8 ?_
    refine lv_iconst (v := (1 : Int32)) hx hb dX9_isOften_11 (by decide) ?_
    refine s_iald hx hb hK hS 1 rfl rfl (by decide) dX9_isOften_12 ?_
    refine lv_icmp_ge (tgt := 97) hx hb dX9_isOften_13 (by decide) (fun c2 => ?_) (fun c2 => ?_)
    · replace h := s_yes c2 h
      refine lv_iload_n hx hb dX9_isOften_97 rfl (lv_at hl 3 rfl) ?_
      obtain ⟨g3, h⟩ := s_guard h
      obtain rfl := Option.some.inj h
      exact hend _ _ _ _ dX9_isOften_98 g3 hS
    replace h := s_no c2 h
    refine lv_bipush (v := (38 : Int32)) hx hb dX9_isOften_16 (by decide) ?_
    refine lv_iconst (v := (4 : Int32)) hx hb dX9_isOften_18 (by decide) ?_
    refine lv_iload hx hb dX9_isOften_19 (lv_at hl 4 rfl) ?_
    refine lv_imul hx hb dX9_isOften_21 ?_
    refine lv_iadd hx hb dX9_isOften_22 ?_
    refine lv_istore (lv' := [(5, .int ((38 : Int32) + ((4 : Int32) * l4))), (0, .ref a_this), (1, .int l1), (2, .int l2), (3, .int l3), (4, .int l4)]) hx hb dX9_isOften_23 hl (by decide) rfl (fun ls hl => ?_)
    refine lv_iload_n hx hb dX9_isOften_25 rfl (lv_at hl 4 rfl) ?_
    refine lv_if_eq (tgt := 89) hx hb dX9_isOften_26 (by decide) (fun c4 => ?_) (fun c4 => ?_)
    · replace h := s_yes c4 h
      exact w_X9_isOften_b89 C0 hend (f_X9_isOften_b5 all fu) ih l1 l2 l4 _ _ _ h hS (lv_sub hl [1, 2, 3, 5] rfl)
    replace h := s_no c4 h
    refine lv_aload_n hx hb dX9_isOften_29 rfl (lv_at hl 1 rfl) ?_
    refine s_get (C := RX9) (T := TX9) (N := 19) hx hb hts inX9 hown hK hS 0 rfl rfl 0 (by decide) (hts (.fieldLink RX9 7 "InnTurnedModel" "all" "[I") (List.mem_of_getElem? (i := 1) rfl)) rfl rfl dX9_isOften_30 ?_
    refine lv_iload hx hb dX9_isOften_33 (lv_at hl 0 rfl) ?_
    obtain ⟨g5, h⟩ := s_guard h
    refine s_iald hx hb hK hS 1 rfl rfl g5 dX9_isOften_35 ?_
    refine lv_iload_n hx hb dX9_isOften_36 rfl (lv_at hl 2 rfl) ?_
    refine lv_icmp_ne (tgt := 85) hx hb dX9_isOften_37 (by decide) (fun c6 => ?_) (fun c6 => ?_)
    · replace h := s_no c6 h
      exact w_X9_isOften_b85 C0 hend (f_X9_isOften_b5 all fu) ih l1 l2 l4 _ _ _ h hS (lv_sub hl [1, 2, 3, 5] rfl)
    replace h := s_yes c6 h
    refine lv_aload_n hx hb dX9_isOften_40 rfl (lv_at hl 1 rfl) ?_
    refine lv_iload_n hx hb dX9_isOften_41 rfl (lv_at hl 2 rfl) ?_
    refine lv_aload_n hx hb dX9_isOften_42 rfl (lv_at hl 1 rfl) ?_
    refine s_get (C := RX9) (T := TX9) (N := 19) hx hb hts inX9 hown hK hS 0 rfl rfl 0 (by decide) (hts (.fieldLink RX9 7 "InnTurnedModel" "all" "[I") (List.mem_of_getElem? (i := 1) rfl)) rfl rfl dX9_isOften_43 ?_
    refine lv_iload hx hb dX9_isOften_46 (lv_at hl 0 rfl) ?_
    refine lv_iconst (v := (1 : Int32)) hx hb dX9_isOften_48 (by decide) ?_
    refine lv_iadd hx hb dX9_isOften_49 ?_
    obtain ⟨g7, h⟩ := s_guard h
    refine s_iald hx hb hK hS 1 rfl rfl g7 dX9_isOften_50 ?_
    refine lv_iload_n hx hb dX9_isOften_51 rfl (lv_at hl 3 rfl) ?_
    refine lv_aload_n hx hb dX9_isOften_52 rfl (lv_at hl 1 rfl) ?_
    refine s_get (C := RX9) (T := TX9) (N := 19) hx hb hts inX9 hown hK hS 0 rfl rfl 0 (by decide) (hts (.fieldLink RX9 7 "InnTurnedModel" "all" "[I") (List.mem_of_getElem? (i := 1) rfl)) rfl rfl dX9_isOften_53 ?_
    refine lv_iload hx hb dX9_isOften_56 (lv_at hl 0 rfl) ?_
    refine lv_iconst (v := (2 : Int32)) hx hb dX9_isOften_58 (by decide) ?_
    refine lv_iadd hx hb dX9_isOften_59 ?_
    obtain ⟨g8, h⟩ := s_guard h
    refine s_iald hx hb hK hS 1 rfl rfl g8 dX9_isOften_60 ?_
    obtain ⟨q9, hq9, h⟩ := s_bind h
    refine u_calliV (r := q9) (As := [.int l1, .int (all (Int32.toNatClampNeg (((38 : Int32) + ((4 : Int32) * l4)) + (1 : Int32)))), .int l2, .int (all (Int32.toNatClampNeg (((38 : Int32) + ((4 : Int32) * l4)) + (2 : Int32))))]) (rest := []) (wc := (wd_X9_isInBy cI cB cZ a_this a_all a_kept a_isKept a_refused a_hand a_outs a_order0 a_bestOrder a_tells a_bytes a_anew a_values all above below_ bytesLong tokenAt tokenLong token value)) hx hb hml hown hts hK hA hl hS (c_X9_isInBy l D cI cB cZ a_this a_all a_kept a_isKept a_refused a_hand a_outs a_order0 a_bestOrder a_tells a_bytes a_anew a_values all above below_ bytesLong tokenAt tokenLong token value l1 (all (Int32.toNatClampNeg (((38 : Int32) + ((4 : Int32) * l4)) + (1 : Int32)))) l2 (all (Int32.toNatClampNeg (((38 : Int32) + ((4 : Int32) * l4)) + (2 : Int32)))) _ _ hq9) (cwV 4 hts gX9_isOften_X9_isInBy rfl rfl rfl (by decide +kernel) ⟨Nat.le_of_ble_eq_true rfl, Nat.le_of_ble_eq_true rfl⟩) 0 rfl rfl [0, 1] rfl rfl rfl rfl (Nat.le_of_ble_eq_true rfl) dX9_isOften_61 (fun H locs hS => ?_)
    refine lv_aload_n hx hb dX9_isOften_64 rfl (lv_at hl 1 rfl) ?_
    refine s_get (C := RX9) (T := TX9) (N := 19) hx hb hts inX9 hown hK hS 0 rfl rfl 0 (by decide) (hts (.fieldLink RX9 7 "InnTurnedModel" "all" "[I") (List.mem_of_getElem? (i := 1) rfl)) rfl rfl dX9_isOften_65 ?_
    refine lv_iload hx hb dX9_isOften_68 (lv_at hl 0 rfl) ?_
    refine lv_iconst (v := (3 : Int32)) hx hb dX9_isOften_70 (by decide) ?_
    refine lv_iadd hx hb dX9_isOften_71 ?_
    obtain ⟨g10, h⟩ := s_guard h
    refine s_iald hx hb hK hS 1 rfl rfl g10 dX9_isOften_72 ?_
    refine lv_iconst (v := (1 : Int32)) hx hb dX9_isOften_73 (by decide) ?_
    refine lv_icmp_ne (tgt := 81) hx hb dX9_isOften_74 (by decide) (fun c11 => ?_) (fun c11 => ?_)
    · replace h := s_no c11 h
      refine lv_iconst (v := (0 : Int32)) hx hb dX9_isOften_81 (by decide) ?_
      exact w_X9_isOften_b82 C0 hend (f_X9_isOften_b5 all fu) ih l1 l2 l4 (0 : Int32) q9 _ _ _ h hS (lv_sub hl [1, 2, 3, 5] rfl)
    replace h := s_yes c11 h
    refine lv_iconst (v := (1 : Int32)) hx hb dX9_isOften_77 (by decide) ?_
    refine lv_goto (tgt := 82) hx hb dX9_isOften_78 (by decide) ?_
    exact w_X9_isOften_b82 C0 hend (f_X9_isOften_b5 all fu) ih l1 l2 l4 (1 : Int32) q9 _ _ _ h hS (lv_sub hl [1, 2, 3, 5] rfl)
def f_X9_isOften  (all : (Nat → Int32))  (p1 : Int32) (p2 : Int32) : Option (Int32) := f_X9_isOften_b5  all s_fuel p1 p2 (1 : Int32) (0 : Int32)
set_option maxHeartbeats 4000000 in
set_option maxRecDepth 100000 in
theorem c_X9_isOften (l : Launch) (D : va_G) (cI cB cZ : ClassId) (a_this : Nat) (a_all : Nat) (a_kept : Nat) (a_isKept : Nat) (a_refused : Nat) (a_hand : Nat) (a_outs : Nat) (a_order0 : Nat) (a_bestOrder : Nat) (a_tells : Nat) (a_bytes : Nat) (a_anew : Nat) (a_values : Nat) (all : (Nat → Int32)) (above : Int64) (below_ : Int64) (bytesLong : Int32) (tokenAt : Int32) (tokenLong : Int32) (token : Int32) (value : Int32) (p1 : Int32) (p2 : Int32) (rv : Int32) (sz : Nat) (hf : f_X9_isOften all p1 p2 = some rv) : Met l yX9_isOften wsX9_isOften rm_X9_isOften (sPc D vwCl (s_tys cI cB cZ) [.ref a_this, .int p1, .int p2] (wd_X9_isOften cI cB cZ a_this a_all a_kept a_isKept a_refused a_hand a_outs a_order0 a_bestOrder a_tells a_bytes a_anew a_values all above below_ bytesLong tokenAt tokenLong token value) sz) (sQi D vwCl (wd_X9_isOften cI cB cZ a_this a_all a_kept a_isKept a_refused a_hand a_outs a_order0 a_bestOrder a_tells a_bytes a_anew a_values all above below_ bytesLong tokenAt tokenLong token value) (wd_X9_isOften cI cB cZ a_this a_all a_kept a_isKept a_refused a_hand a_outs a_order0 a_bestOrder a_tells a_bytes a_anew a_values all above below_ bytesLong tokenAt tokenLong token value) sz rv) 0 0 (va_A (wd_X9_isOften cI cB cZ a_this a_all a_kept a_isKept a_refused a_hand a_outs a_order0 a_bestOrder a_tells a_bytes a_anew a_values all above below_ bytesLong tokenAt tokenLong token value) sz) := by
  refine s_enter_z (cc := cX9_isOften) (nL := 6) (r := rv) (by decide) rfl (Nat.le_of_ble_eq_true rfl) ?_
  intro p e s m args below meth c A Q C0 hend ls hl hS
  have h := hf
  clear hf
  replace hl : lv_has ls 6 [(0, .ref a_this), (1, .int p1), (2, .int p2)] := hl
  unfold f_X9_isOften at h
  obtain ⟨hx, hb, hml, hown, hts, hK, hA⟩ := id C0
  have inX9 : ∀ w ∈ u_ws RX9 TX9 19, w ∈ wsX9_isOften := inX9_X9_isOften
  refine lv_iconst (v := (1 : Int32)) hx hb dX9_isOften_0 (by decide) ?_
  refine lv_istore_n (lv' := [(3, .int (1 : Int32)), (0, .ref a_this), (1, .int p1), (2, .int p2)]) hx hb dX9_isOften_1 rfl hl (by decide) rfl (fun ls hl => ?_)
  refine lv_iconst (v := (0 : Int32)) hx hb dX9_isOften_2 (by decide) ?_
  refine lv_istore (lv' := [(4, .int (0 : Int32)), (3, .int (1 : Int32)), (0, .ref a_this), (1, .int p1), (2, .int p2)]) hx hb dX9_isOften_3 hl (by decide) rfl (fun ls hl => ?_)
  exact w_X9_isOften_b5 C0 hend  s_fuel p1 p2 (1 : Int32) (0 : Int32) _ _ _ h hS (lv_sub hl [2, 3, 4, 1, 0] rfl)

-- InnTurnedModel.often(II)I
def wd_X9_often (cI cB cZ : ClassId) (a_this : Nat) (a_all : Nat) (a_kept : Nat) (a_isKept : Nat) (a_refused : Nat) (a_hand : Nat) (a_outs : Nat) (a_order0 : Nat) (a_bestOrder : Nat) (a_tells : Nat) (a_bytes : Nat) (a_anew : Nat) (a_values : Nat)  (all : (Nat → Int32)) (refused : (Nat → Int32)) (above : Int64) (below_ : Int64) (bytesLong : Int32) (tokenAt : Int32) (tokenLong : Int32) (token : Int32) (value : Int32) : va_W := [(a_this, .inr (6, [.ref a_all, .ref a_kept, .ref a_isKept, .ref a_refused, .long above, .long below_, .ref a_hand, .ref a_outs, .ref a_order0, .ref a_bestOrder, .ref a_tells, .ref a_bytes, .int bytesLong, .int tokenAt, .int tokenLong, .int token, .int value, .ref a_anew, .ref a_values])), (a_all, .inl (cI, 250, .inl all)), (a_refused, .inl (cI, 3, .inl refused))]
abbrev rm_X9_often : Room := { frames := 3, cells := 0, slots := 0, locals := 74 }
def f_X9_often_b20  (all : (Nat → Int32)) (refused : (Nat → Int32)) : Option (Int32 × (Nat → Int32)) := ((f_X9_bad refused (-2 : Int32)).bind fun q1 => some (q1.1, q1.2))
set_option maxHeartbeats 4000000 in
set_option maxRecDepth 100000 in
theorem w_X9_often_b20 {p : Program} {l : Launch} {e : Env} {s : State} {m : MethodId} {args : Array Value} {below : List Frame} {meth : Method} {c : Code} {A : Nat → Prop} {Q : State → Prop} {D : va_G} {cI cB cZ : ClassId} {a_this a_all a_kept a_isKept a_refused a_hand a_outs a_order0 a_bestOrder a_tells a_bytes a_anew a_values : Nat} {all : (Nat → Int32)} {above : Int64} {below_ : Int64} {bytesLong : Int32} {tokenAt : Int32} {tokenLong : Int32} {token : Int32} {value : Int32} (C0 : Cx p s m args c cX9_often 7 RX9 wsX9_often D (s_tys cI cB cZ) A) {rv : Int32 × (Nat → Int32)} (hend : ∀ (pc : Nat) (H : Heap) (locs : List Loc) (ls : Array Slot), decode cX9_often pc = .ok (.ireturn, 1) → sS D vwCl A s.heap (wd_X9_often cI cB cZ a_this a_all a_kept a_isKept a_refused a_hand a_outs a_order0 a_bestOrder a_tells a_bytes a_anew a_values all rv.2 above below_ bytesLong tokenAt tokenLong token value) H locs → W p l e rm_X9_often s m args below meth c H locs 0 0 Q (F0 m pc ls [.int rv.1])) : ∀ (refused : (Nat → Int32)) (H : Heap) (locs : List Loc) (ls : Array Slot), f_X9_often_b20 all refused = some rv → sS D vwCl A s.heap (wd_X9_often cI cB cZ a_this a_all a_kept a_isKept a_refused a_hand a_outs a_order0 a_bestOrder a_tells a_bytes a_anew a_values all refused above below_ bytesLong tokenAt tokenLong token value) H locs → lv_has ls 7 [(0, .ref a_this)] → W p l e rm_X9_often s m args below meth c H locs 0 0 Q (F0 m 20 ls []) := by
  obtain ⟨hx, hb, hml, hown, hts, hK, hA⟩ := id C0
  intro refused H locs ls h hS hl
  unfold f_X9_often_b20 at h
  refine lv_aload_n hx hb dX9_often_20 rfl (lv_at hl 0 rfl) ?_
  refine lv_bipush (v := (-2 : Int32)) hx hb dX9_often_21 (by decide) ?_
  obtain ⟨q1, hq1, h⟩ := s_bind h
  refine r_calliV (r := q1.1) (As := [.int (-2 : Int32)]) (rest := []) (wc := (wd_X9_bad cI cB cZ a_this a_all a_kept a_isKept a_refused a_hand a_outs a_order0 a_bestOrder a_tells a_bytes a_anew a_values refused above below_ bytesLong tokenAt tokenLong token value)) (w1 := (wd_X9_bad cI cB cZ a_this a_all a_kept a_isKept a_refused a_hand a_outs a_order0 a_bestOrder a_tells a_bytes a_anew a_values q1.2 above below_ bytesLong tokenAt tokenLong token value)) (ws' := (wd_X9_often cI cB cZ a_this a_all a_kept a_isKept a_refused a_hand a_outs a_order0 a_bestOrder a_tells a_bytes a_anew a_values all q1.2 above below_ bytesLong tokenAt tokenLong token value)) hx hb hml hown hts hK hA hl hS (c_X9_bad l D cI cB cZ a_this a_all a_kept a_isKept a_refused a_hand a_outs a_order0 a_bestOrder a_tells a_bytes a_anew a_values refused above below_ bytesLong tokenAt tokenLong token value (-2 : Int32) _ _ hq1) (cwV 1 hts gX9_often_X9_bad rfl rfl rfl (by decide +kernel) ⟨Nat.le_of_ble_eq_true rfl, Nat.le_of_ble_eq_true rfl⟩) 0 rfl rfl [0, 2] rfl rfl rfl [.inr 0, .inl 1, .inr 1] rfl rfl rfl rfl (Nat.le_of_ble_eq_true rfl) dX9_often_23 (fun H locs hS => ?_)
  obtain rfl := Option.some.inj h
  exact hend _ _ _ _ dX9_often_26 hS
def f_X9_often_b75 (k_b38 : (Nat → Int32) → Int32 → Int32 → Int32 → Int32 → Int32 → Int32 → Option (Int32 × (Nat → Int32)))  (all : (Nat → Int32)) (refused : (Nat → Int32)) (l1 : Int32) (l2 : Int32) (l3 : Int32) (l4 : Int32) (l5 : Int32) (l6 : Int32) : Option (Int32 × (Nat → Int32)) := k_b38 refused l1 l2 l3 l4 l5 (l6 + (1 : Int32))
set_option maxHeartbeats 4000000 in
set_option maxRecDepth 100000 in
theorem w_X9_often_b75 {p : Program} {l : Launch} {e : Env} {s : State} {m : MethodId} {args : Array Value} {below : List Frame} {meth : Method} {c : Code} {A : Nat → Prop} {Q : State → Prop} {D : va_G} {cI cB cZ : ClassId} {a_this a_all a_kept a_isKept a_refused a_hand a_outs a_order0 a_bestOrder a_tells a_bytes a_anew a_values : Nat} {all : (Nat → Int32)} {above : Int64} {below_ : Int64} {bytesLong : Int32} {tokenAt : Int32} {tokenLong : Int32} {token : Int32} {value : Int32} (C0 : Cx p s m args c cX9_often 7 RX9 wsX9_often D (s_tys cI cB cZ) A) {rv : Int32 × (Nat → Int32)} (hend : ∀ (pc : Nat) (H : Heap) (locs : List Loc) (ls : Array Slot), decode cX9_often pc = .ok (.ireturn, 1) → sS D vwCl A s.heap (wd_X9_often cI cB cZ a_this a_all a_kept a_isKept a_refused a_hand a_outs a_order0 a_bestOrder a_tells a_bytes a_anew a_values all rv.2 above below_ bytesLong tokenAt tokenLong token value) H locs → W p l e rm_X9_often s m args below meth c H locs 0 0 Q (F0 m pc ls [.int rv.1])) (k_b38 : (Nat → Int32) → Int32 → Int32 → Int32 → Int32 → Int32 → Int32 → Option (Int32 × (Nat → Int32))) (hk_b38 : ∀ (refused : (Nat → Int32)) (l1 : Int32) (l2 : Int32) (l3 : Int32) (l4 : Int32) (l5 : Int32) (l6 : Int32) (H : Heap) (locs : List Loc) (ls : Array Slot), k_b38 refused l1 l2 l3 l4 l5 l6 = some rv → sS D vwCl A s.heap (wd_X9_often cI cB cZ a_this a_all a_kept a_isKept a_refused a_hand a_outs a_order0 a_bestOrder a_tells a_bytes a_anew a_values all refused above below_ bytesLong tokenAt tokenLong token value) H locs → lv_has ls 7 [(0, .ref a_this), (1, .int l1), (2, .int l2), (3, .int l3), (4, .int l4), (5, .int l5), (6, .int l6)] → W p l e rm_X9_often s m args below meth c H locs 0 0 Q (F0 m 38 ls [])) : ∀ (refused : (Nat → Int32)) (l1 : Int32) (l2 : Int32) (l3 : Int32) (l4 : Int32) (l5 : Int32) (l6 : Int32) (H : Heap) (locs : List Loc) (ls : Array Slot), f_X9_often_b75 k_b38 all refused l1 l2 l3 l4 l5 l6 = some rv → sS D vwCl A s.heap (wd_X9_often cI cB cZ a_this a_all a_kept a_isKept a_refused a_hand a_outs a_order0 a_bestOrder a_tells a_bytes a_anew a_values all refused above below_ bytesLong tokenAt tokenLong token value) H locs → lv_has ls 7 [(0, .ref a_this), (1, .int l1), (2, .int l2), (3, .int l3), (4, .int l4), (5, .int l5), (6, .int l6)] → W p l e rm_X9_often s m args below meth c H locs 0 0 Q (F0 m 75 ls []) := by
  obtain ⟨hx, hb, hml, hown, hts, hK, hA⟩ := id C0
  intro refused l1 l2 l3 l4 l5 l6 H locs ls h hS hl
  unfold f_X9_often_b75 at h
  refine lv_iinc (v := (l6 + (1 : Int32))) (lv' := [(6, .int (l6 + (1 : Int32))), (0, .ref a_this), (1, .int l1), (2, .int l2), (3, .int l3), (4, .int l4), (5, .int l5)]) hx hb dX9_often_75 hl (k := 6) rfl rfl (by decide) rfl (fun ls hl => ?_)
  refine lv_goto (tgt := 38) hx hb dX9_often_78 (by decide) ?_
  exact hk_b38 refused l1 l2 l3 l4 l5 (l6 + (1 : Int32)) _ _ _ h hS (lv_sub hl [1, 2, 3, 4, 5, 6, 0] rfl)
def f_X9_often_b66 (k_b38 : (Nat → Int32) → Int32 → Int32 → Int32 → Int32 → Int32 → Int32 → Option (Int32 × (Nat → Int32)))  (all : (Nat → Int32)) (refused : (Nat → Int32)) (l1 : Int32) (l2 : Int32) (l3 : Int32) (l6 : Int32) (t0 : Int32) : Option (Int32 × (Nat → Int32)) := f_X9_often_b75 k_b38 all refused l1 l2 (l3 + (1 : Int32)) t0 l6 l6
set_option maxHeartbeats 4000000 in
set_option maxRecDepth 100000 in
theorem w_X9_often_b66 {p : Program} {l : Launch} {e : Env} {s : State} {m : MethodId} {args : Array Value} {below : List Frame} {meth : Method} {c : Code} {A : Nat → Prop} {Q : State → Prop} {D : va_G} {cI cB cZ : ClassId} {a_this a_all a_kept a_isKept a_refused a_hand a_outs a_order0 a_bestOrder a_tells a_bytes a_anew a_values : Nat} {all : (Nat → Int32)} {above : Int64} {below_ : Int64} {bytesLong : Int32} {tokenAt : Int32} {tokenLong : Int32} {token : Int32} {value : Int32} (C0 : Cx p s m args c cX9_often 7 RX9 wsX9_often D (s_tys cI cB cZ) A) {rv : Int32 × (Nat → Int32)} (hend : ∀ (pc : Nat) (H : Heap) (locs : List Loc) (ls : Array Slot), decode cX9_often pc = .ok (.ireturn, 1) → sS D vwCl A s.heap (wd_X9_often cI cB cZ a_this a_all a_kept a_isKept a_refused a_hand a_outs a_order0 a_bestOrder a_tells a_bytes a_anew a_values all rv.2 above below_ bytesLong tokenAt tokenLong token value) H locs → W p l e rm_X9_often s m args below meth c H locs 0 0 Q (F0 m pc ls [.int rv.1])) (k_b38 : (Nat → Int32) → Int32 → Int32 → Int32 → Int32 → Int32 → Int32 → Option (Int32 × (Nat → Int32))) (hk_b38 : ∀ (refused : (Nat → Int32)) (l1 : Int32) (l2 : Int32) (l3 : Int32) (l4 : Int32) (l5 : Int32) (l6 : Int32) (H : Heap) (locs : List Loc) (ls : Array Slot), k_b38 refused l1 l2 l3 l4 l5 l6 = some rv → sS D vwCl A s.heap (wd_X9_often cI cB cZ a_this a_all a_kept a_isKept a_refused a_hand a_outs a_order0 a_bestOrder a_tells a_bytes a_anew a_values all refused above below_ bytesLong tokenAt tokenLong token value) H locs → lv_has ls 7 [(0, .ref a_this), (1, .int l1), (2, .int l2), (3, .int l3), (4, .int l4), (5, .int l5), (6, .int l6)] → W p l e rm_X9_often s m args below meth c H locs 0 0 Q (F0 m 38 ls [])) : ∀ (refused : (Nat → Int32)) (l1 : Int32) (l2 : Int32) (l3 : Int32) (l6 : Int32) (t0 : Int32) (H : Heap) (locs : List Loc) (ls : Array Slot), f_X9_often_b66 k_b38 all refused l1 l2 l3 l6 t0 = some rv → sS D vwCl A s.heap (wd_X9_often cI cB cZ a_this a_all a_kept a_isKept a_refused a_hand a_outs a_order0 a_bestOrder a_tells a_bytes a_anew a_values all refused above below_ bytesLong tokenAt tokenLong token value) H locs → lv_has ls 7 [(0, .ref a_this), (1, .int l1), (2, .int l2), (3, .int l3), (6, .int l6)] → W p l e rm_X9_often s m args below meth c H locs 0 0 Q (F0 m 66 ls [.int t0]) := by
  obtain ⟨hx, hb, hml, hown, hts, hK, hA⟩ := id C0
  intro refused l1 l2 l3 l6 t0 H locs ls h hS hl
  unfold f_X9_often_b66 at h
  refine lv_istore (lv' := [(4, .int t0), (0, .ref a_this), (1, .int l1), (2, .int l2), (3, .int l3), (6, .int l6)]) hx hb dX9_often_66 hl (by decide) rfl (fun ls hl => ?_)
  refine lv_iload hx hb dX9_often_68 (lv_at hl 5 rfl) ?_
  refine lv_istore (lv' := [(5, .int l6), (4, .int t0), (0, .ref a_this), (1, .int l1), (2, .int l2), (3, .int l3), (6, .int l6)]) hx hb dX9_often_70 hl (by decide) rfl (fun ls hl => ?_)
  refine lv_iinc (v := (l3 + (1 : Int32))) (lv' := [(3, .int (l3 + (1 : Int32))), (5, .int l6), (4, .int t0), (0, .ref a_this), (1, .int l1), (2, .int l2), (6, .int l6)]) hx hb dX9_often_72 hl (k := 5) rfl rfl (by decide) rfl (fun ls hl => ?_)
  exact w_X9_often_b75 C0 hend k_b38 hk_b38 refused l1 l2 (l3 + (1 : Int32)) t0 l6 l6 _ _ _ h hS (lv_sub hl [3, 4, 5, 0, 2, 1, 6] rfl)
def f_X9_often_b38  (all : (Nat → Int32)) : Nat → (Nat → Int32) → Int32 → Int32 → Int32 → Int32 → Int32 → Int32 → Option (Int32 × (Nat → Int32))
  | 0, _, _, _, _, _, _, _ => none
  | fu + 1, refused, l1, l2, l3, l4, l5, l6 => (if (30 : Int32) < l6 then (if l2 = 0 then some (l3, refused) else (if l2 = (1 : Int32) then some (l4, refused) else some (l5, refused))) else ((f_X9_isOften all l1 l6).bind fun q5 => (if q5 = 0 then f_X9_often_b75 (f_X9_often_b38 all fu) all refused l1 l2 l3 l4 l5 l6 else (if l3 = 0 then f_X9_often_b66 (f_X9_often_b38 all fu) all refused l1 l2 l3 l6 l6 else f_X9_often_b66 (f_X9_often_b38 all fu) all refused l1 l2 l3 l6 l4))))
set_option maxHeartbeats 4000000 in
set_option maxRecDepth 100000 in
theorem w_X9_often_b38 {p : Program} {l : Launch} {e : Env} {s : State} {m : MethodId} {args : Array Value} {below : List Frame} {meth : Method} {c : Code} {A : Nat → Prop} {Q : State → Prop} {D : va_G} {cI cB cZ : ClassId} {a_this a_all a_kept a_isKept a_refused a_hand a_outs a_order0 a_bestOrder a_tells a_bytes a_anew a_values : Nat} {all : (Nat → Int32)} {above : Int64} {below_ : Int64} {bytesLong : Int32} {tokenAt : Int32} {tokenLong : Int32} {token : Int32} {value : Int32} (C0 : Cx p s m args c cX9_often 7 RX9 wsX9_often D (s_tys cI cB cZ) A) {rv : Int32 × (Nat → Int32)} (hend : ∀ (pc : Nat) (H : Heap) (locs : List Loc) (ls : Array Slot), decode cX9_often pc = .ok (.ireturn, 1) → sS D vwCl A s.heap (wd_X9_often cI cB cZ a_this a_all a_kept a_isKept a_refused a_hand a_outs a_order0 a_bestOrder a_tells a_bytes a_anew a_values all rv.2 above below_ bytesLong tokenAt tokenLong token value) H locs → W p l e rm_X9_often s m args below meth c H locs 0 0 Q (F0 m pc ls [.int rv.1])) : ∀ (fu : Nat) (refused : (Nat → Int32)) (l1 : Int32) (l2 : Int32) (l3 : Int32) (l4 : Int32) (l5 : Int32) (l6 : Int32) (H : Heap) (locs : List Loc) (ls : Array Slot), f_X9_often_b38 all fu refused l1 l2 l3 l4 l5 l6 = some rv → sS D vwCl A s.heap (wd_X9_often cI cB cZ a_this a_all a_kept a_isKept a_refused a_hand a_outs a_order0 a_bestOrder a_tells a_bytes a_anew a_values all refused above below_ bytesLong tokenAt tokenLong token value) H locs → lv_has ls 7 [(0, .ref a_this), (1, .int l1), (2, .int l2), (3, .int l3), (4, .int l4), (5, .int l5), (6, .int l6)] → W p l e rm_X9_often s m args below meth c H locs 0 0 Q (F0 m 38 ls []) := by
  obtain ⟨hx, hb, hml, hown, hts, hK, hA⟩ := id C0
  intro fu
  induction fu with
  | zero => intro refused l1 l2 l3 l4 l5 l6 H locs ls h; cases h
  | succ fu ih =>
    intro refused l1 l2 l3 l4 l5 l6 H locs ls h hS hl
    rw [f_X9_often_b38] at h
    refine lv_iload hx hb dX9_often_38 (lv_at hl 6 rfl) ?_
    refine lv_bipush (v := (30 : Int32)) hx hb dX9_often_40 (by decide) ?_
    refine lv_icmp_gt (tgt := 81) hx hb dX9_often_42 (by decide) (fun c2 => ?_) (fun c2 => ?_)
    · replace h := s_yes c2 h
      refine lv_iload_n hx hb dX9_often_81 rfl (lv_at hl 2 rfl) ?_
      refine lv_if_ne (tgt := 89) hx hb dX9_often_82 (by decide) (fun c3 => ?_) (fun c3 => ?_)
      · replace h := s_no c3 h
        refine lv_iload_n hx hb dX9_often_89 rfl (lv_at hl 2 rfl) ?_
        refine lv_iconst (v := (1 : Int32)) hx hb dX9_often_90 (by decide) ?_
        refine lv_icmp_ne (tgt := 99) hx hb dX9_often_91 (by decide) (fun c4 => ?_) (fun c4 => ?_)
        · replace h := s_no c4 h
          refine lv_iload hx hb dX9_often_99 (lv_at hl 5 rfl) ?_
          obtain rfl := Option.some.inj h
          exact hend _ _ _ _ dX9_often_101 hS
        replace h := s_yes c4 h
        refine lv_iload hx hb dX9_often_94 (lv_at hl 4 rfl) ?_
        refine lv_goto (tgt := 101) hx hb dX9_often_96 (by decide) ?_
        obtain rfl := Option.some.inj h
        exact hend _ _ _ _ dX9_often_101 hS
      replace h := s_yes c3 h
      refine lv_iload_n hx hb dX9_often_85 rfl (lv_at hl 3 rfl) ?_
      refine lv_goto (tgt := 101) hx hb dX9_often_86 (by decide) ?_
      obtain rfl := Option.some.inj h
      exact hend _ _ _ _ dX9_often_101 hS
    replace h := s_no c2 h
    refine lv_aload_n hx hb dX9_often_45 rfl (lv_at hl 0 rfl) ?_
    refine lv_iload_n hx hb dX9_often_46 rfl (lv_at hl 1 rfl) ?_
    refine lv_iload hx hb dX9_often_47 (lv_at hl 6 rfl) ?_
    obtain ⟨q5, hq5, h⟩ := s_bind h
    refine u_calliV (r := q5) (As := [.int l1, .int l6]) (rest := []) (wc := (wd_X9_isOften cI cB cZ a_this a_all a_kept a_isKept a_refused a_hand a_outs a_order0 a_bestOrder a_tells a_bytes a_anew a_values all above below_ bytesLong tokenAt tokenLong token value)) hx hb hml hown hts hK hA hl hS (c_X9_isOften l D cI cB cZ a_this a_all a_kept a_isKept a_refused a_hand a_outs a_order0 a_bestOrder a_tells a_bytes a_anew a_values all above below_ bytesLong tokenAt tokenLong token value l1 l6 _ _ hq5) (cwV 2 hts gX9_often_X9_isOften rfl rfl rfl (by decide +kernel) ⟨Nat.le_of_ble_eq_true rfl, Nat.le_of_ble_eq_true rfl⟩) 0 rfl rfl [0, 1] rfl rfl rfl rfl (Nat.le_of_ble_eq_true rfl) dX9_often_49 (fun H locs hS => ?_)
    refine lv_if_eq (tgt := 75) hx hb dX9_often_52 (by decide) (fun c6 => ?_) (fun c6 => ?_)
    · replace h := s_yes c6 h
      exact w_X9_often_b75 C0 hend (f_X9_often_b38 all fu) ih refused l1 l2 l3 l4 l5 l6 _ _ _ h hS (lv_sub hl [0, 1, 2, 3, 4, 5, 6] rfl)
    replace h := s_no c6 h
    refine lv_iload_n hx hb dX9_often_55 rfl (lv_at hl 3 rfl) ?_
    refine lv_if_ne (tgt := 64) hx hb dX9_often_56 (by decide) (fun c7 => ?_) (fun c7 => ?_)
    · replace h := s_no c7 h
      refine lv_iload hx hb dX9_often_64 (lv_at hl 4 rfl) ?_
      exact w_X9_often_b66 C0 hend (f_X9_often_b38 all fu) ih refused l1 l2 l3 l6 l4 _ _ _ h hS (lv_sub hl [0, 1, 2, 3, 6] rfl)
    replace h := s_yes c7 h
    refine lv_iload hx hb dX9_often_59 (lv_at hl 6 rfl) ?_
    refine lv_goto (tgt := 66) hx hb dX9_often_61 (by decide) ?_
    exact w_X9_often_b66 C0 hend (f_X9_often_b38 all fu) ih refused l1 l2 l3 l6 l6 _ _ _ h hS (lv_sub hl [0, 1, 2, 3, 6] rfl)
def f_X9_often  (all : (Nat → Int32)) (refused : (Nat → Int32)) (p1 : Int32) (p2 : Int32) : Option (Int32 × (Nat → Int32)) := ((f_X9_isOne all p1).bind fun q8 => (if q8 = 0 then f_X9_often_b20  all refused else ((f_X9_in (Int32.toInt64 p2) (0 : Int64) (2 : Int64)).bind fun q10 => (if q10 = 0 then f_X9_often_b20  all refused else f_X9_often_b38  all s_fuel refused p1 p2 (0 : Int32) (-1 : Int32) (-1 : Int32) (0 : Int32)))))
set_option maxHeartbeats 4000000 in
set_option maxRecDepth 100000 in
theorem c_X9_often (l : Launch) (D : va_G) (cI cB cZ : ClassId) (a_this : Nat) (a_all : Nat) (a_kept : Nat) (a_isKept : Nat) (a_refused : Nat) (a_hand : Nat) (a_outs : Nat) (a_order0 : Nat) (a_bestOrder : Nat) (a_tells : Nat) (a_bytes : Nat) (a_anew : Nat) (a_values : Nat) (all : (Nat → Int32)) (refused : (Nat → Int32)) (above : Int64) (below_ : Int64) (bytesLong : Int32) (tokenAt : Int32) (tokenLong : Int32) (token : Int32) (value : Int32) (p1 : Int32) (p2 : Int32) (rv : Int32 × (Nat → Int32)) (sz : Nat) (hf : f_X9_often all refused p1 p2 = some rv) : Met l yX9_often wsX9_often rm_X9_often (sPc D vwCl (s_tys cI cB cZ) [.ref a_this, .int p1, .int p2] (wd_X9_often cI cB cZ a_this a_all a_kept a_isKept a_refused a_hand a_outs a_order0 a_bestOrder a_tells a_bytes a_anew a_values all refused above below_ bytesLong tokenAt tokenLong token value) sz) (sQi D vwCl (wd_X9_often cI cB cZ a_this a_all a_kept a_isKept a_refused a_hand a_outs a_order0 a_bestOrder a_tells a_bytes a_anew a_values all refused above below_ bytesLong tokenAt tokenLong token value) (wd_X9_often cI cB cZ a_this a_all a_kept a_isKept a_refused a_hand a_outs a_order0 a_bestOrder a_tells a_bytes a_anew a_values all rv.2 above below_ bytesLong tokenAt tokenLong token value) sz rv.1) 0 0 (va_A (wd_X9_often cI cB cZ a_this a_all a_kept a_isKept a_refused a_hand a_outs a_order0 a_bestOrder a_tells a_bytes a_anew a_values all refused above below_ bytesLong tokenAt tokenLong token value) sz) := by
  refine s_enter_n (cc := cX9_often) (nL := 7) (r := rv.1) (by decide) rfl (Nat.le_of_ble_eq_true rfl) ?_
  intro p e s m args below meth c A Q C0 hend ls hl hS
  have h := hf
  clear hf
  replace hl : lv_has ls 7 [(0, .ref a_this), (1, .int p1), (2, .int p2)] := hl
  unfold f_X9_often at h
  obtain ⟨hx, hb, hml, hown, hts, hK, hA⟩ := id C0
  refine lv_aload_n hx hb dX9_often_0 rfl (lv_at hl 0 rfl) ?_
  refine lv_iload_n hx hb dX9_often_1 rfl (lv_at hl 1 rfl) ?_
  obtain ⟨q8, hq8, h⟩ := s_bind h
  refine u_calliV (r := q8) (As := [.int p1]) (rest := []) (wc := (wd_X9_isOne cI cB cZ a_this a_all a_kept a_isKept a_refused a_hand a_outs a_order0 a_bestOrder a_tells a_bytes a_anew a_values all above below_ bytesLong tokenAt tokenLong token value)) hx hb hml hown hts hK hA hl hS (c_X9_isOne l D cI cB cZ a_this a_all a_kept a_isKept a_refused a_hand a_outs a_order0 a_bestOrder a_tells a_bytes a_anew a_values all above below_ bytesLong tokenAt tokenLong token value p1 _ _ hq8) (cwV 1 hts gX9_often_X9_isOne rfl rfl rfl (by decide +kernel) ⟨Nat.le_of_ble_eq_true rfl, Nat.le_of_ble_eq_true rfl⟩) 0 rfl rfl [0, 1] rfl rfl rfl rfl (Nat.le_of_ble_eq_true rfl) dX9_often_2 (fun H locs hS => ?_)
  refine lv_if_eq (tgt := 20) hx hb dX9_often_5 (by decide) (fun c9 => ?_) (fun c9 => ?_)
  · replace h := s_yes c9 h
    exact w_X9_often_b20 C0 hend  refused _ _ _ h hS (lv_sub hl [0] rfl)
  replace h := s_no c9 h
  refine lv_iload_n hx hb dX9_often_8 rfl (lv_at hl 2 rfl) ?_
  refine lv_i2l (v := (Int32.toInt64 p2)) hx hb dX9_often_9 rfl ?_
  refine lv_lconst (v := (0 : Int64)) hx hb dX9_often_10 (by decide) ?_
  refine lv_ldc2 (v := (2 : Int64)) hx hb hown (hts (.constantLong RX9 167 (2)) (List.mem_of_getElem? (i := 1) rfl)) dX9_often_11 ?_
  obtain ⟨q10, hq10, h⟩ := s_bind h
  refine u_calliS (r := q10) (As := [.long (Int32.toInt64 p2), .long (0 : Int64), .long (2 : Int64)]) (rest := []) (wc := ([] : va_W)) hx hb hml hown hts hK hA hl hS (c_X9_in l D cI cB cZ (Int32.toInt64 p2) (0 : Int64) (2 : Int64) _ _ hq10) (va_cwS 3 hts gX9_often_X9_in rfl rfl rfl (by decide +kernel) ⟨Nat.le_of_ble_eq_true rfl, Nat.le_of_ble_eq_true rfl⟩) [] rfl rfl rfl rfl (Nat.le_of_ble_eq_true rfl) dX9_often_14 (fun H locs hS => ?_)
  refine lv_if_ne (tgt := 27) hx hb dX9_often_17 (by decide) (fun c11 => ?_) (fun c11 => ?_)
  · replace h := s_no c11 h
    refine lv_iconst (v := (0 : Int32)) hx hb dX9_often_27 (by decide) ?_
    refine lv_istore_n (lv' := [(3, .int (0 : Int32)), (0, .ref a_this), (1, .int p1), (2, .int p2)]) hx hb dX9_often_28 rfl hl (by decide) rfl (fun ls hl => ?_)
    refine lv_iconst (v := (-1 : Int32)) hx hb dX9_often_29 (by decide) ?_
    refine lv_istore (lv' := [(4, .int (-1 : Int32)), (3, .int (0 : Int32)), (0, .ref a_this), (1, .int p1), (2, .int p2)]) hx hb dX9_often_30 hl (by decide) rfl (fun ls hl => ?_)
    refine lv_iconst (v := (-1 : Int32)) hx hb dX9_often_32 (by decide) ?_
    refine lv_istore (lv' := [(5, .int (-1 : Int32)), (4, .int (-1 : Int32)), (3, .int (0 : Int32)), (0, .ref a_this), (1, .int p1), (2, .int p2)]) hx hb dX9_often_33 hl (by decide) rfl (fun ls hl => ?_)
    refine lv_iconst (v := (0 : Int32)) hx hb dX9_often_35 (by decide) ?_
    refine lv_istore (lv' := [(6, .int (0 : Int32)), (5, .int (-1 : Int32)), (4, .int (-1 : Int32)), (3, .int (0 : Int32)), (0, .ref a_this), (1, .int p1), (2, .int p2)]) hx hb dX9_often_36 hl (by decide) rfl (fun ls hl => ?_)
    exact w_X9_often_b38 C0 hend  s_fuel refused p1 p2 (0 : Int32) (-1 : Int32) (-1 : Int32) (0 : Int32) _ _ _ h hS (lv_sub hl [4, 5, 6, 3, 2, 1, 0] rfl)
  replace h := s_yes c11 h
  exact w_X9_often_b20 C0 hend  refused _ _ _ h hS (lv_sub hl [0] rfl)

-- InnTurnedModel.tell(I)I
def wd_X9_tell (cI cB cZ : ClassId) (a_this : Nat) (a_all : Nat) (a_kept : Nat) (a_isKept : Nat) (a_refused : Nat) (a_hand : Nat) (a_outs : Nat) (a_order0 : Nat) (a_bestOrder : Nat) (a_tells : Nat) (a_bytes : Nat) (a_anew : Nat) (a_values : Nat)  (all : (Nat → Int32)) (refused : (Nat → Int32)) (above : Int64) (below_ : Int64) (bytesLong : Int32) (tokenAt : Int32) (tokenLong : Int32) (token : Int32) (value : Int32) : va_W := [(a_this, .inr (6, [.ref a_all, .ref a_kept, .ref a_isKept, .ref a_refused, .long above, .long below_, .ref a_hand, .ref a_outs, .ref a_order0, .ref a_bestOrder, .ref a_tells, .ref a_bytes, .int bytesLong, .int tokenAt, .int tokenLong, .int token, .int value, .ref a_anew, .ref a_values])), (a_all, .inl (cI, 250, .inl all)), (a_refused, .inl (cI, 3, .inl refused))]
abbrev rm_X9_tell : Room := { frames := 3, cells := 0, slots := 0, locals := 74 }
def f_X9_tell_b182 (k_b23 : (Nat → Int32) → Int32 → Int32 → Int32 → Int32 → Option (Int32 × (Nat → Int32))) (k_b33 : (Nat → Int32) → Int32 → Int32 → Int32 → Int32 → Int32 → Option (Int32 × (Nat → Int32)))  (all : (Nat → Int32)) (refused : (Nat → Int32)) (l1 : Int32) (l2 : Int32) (l4 : Int32) (l5 : Int32) (t0 : Int32) : Option (Int32 × (Nat → Int32)) := k_b33 refused l1 l2 t0 l4 (l5 + (1 : Int32))
set_option maxHeartbeats 4000000 in
set_option maxRecDepth 100000 in
theorem w_X9_tell_b182 {p : Program} {l : Launch} {e : Env} {s : State} {m : MethodId} {args : Array Value} {below : List Frame} {meth : Method} {c : Code} {A : Nat → Prop} {Q : State → Prop} {D : va_G} {cI cB cZ : ClassId} {a_this a_all a_kept a_isKept a_refused a_hand a_outs a_order0 a_bestOrder a_tells a_bytes a_anew a_values : Nat} {all : (Nat → Int32)} {above : Int64} {below_ : Int64} {bytesLong : Int32} {tokenAt : Int32} {tokenLong : Int32} {token : Int32} {value : Int32} (C0 : Cx p s m args c cX9_tell 10 RX9 wsX9_tell D (s_tys cI cB cZ) A) {rv : Int32 × (Nat → Int32)} (hend : ∀ (pc : Nat) (H : Heap) (locs : List Loc) (ls : Array Slot), decode cX9_tell pc = .ok (.ireturn, 1) → sS D vwCl A s.heap (wd_X9_tell cI cB cZ a_this a_all a_kept a_isKept a_refused a_hand a_outs a_order0 a_bestOrder a_tells a_bytes a_anew a_values all rv.2 above below_ bytesLong tokenAt tokenLong token value) H locs → W p l e rm_X9_tell s m args below meth c H locs 0 0 Q (F0 m pc ls [.int rv.1])) (k_b23 : (Nat → Int32) → Int32 → Int32 → Int32 → Int32 → Option (Int32 × (Nat → Int32))) (hk_b23 : ∀ (refused : (Nat → Int32)) (l1 : Int32) (l2 : Int32) (l3 : Int32) (l4 : Int32) (H : Heap) (locs : List Loc) (ls : Array Slot), k_b23 refused l1 l2 l3 l4 = some rv → sS D vwCl A s.heap (wd_X9_tell cI cB cZ a_this a_all a_kept a_isKept a_refused a_hand a_outs a_order0 a_bestOrder a_tells a_bytes a_anew a_values all refused above below_ bytesLong tokenAt tokenLong token value) H locs → lv_has ls 10 [(0, .ref a_this), (1, .int l1), (2, .int l2), (3, .int l3), (4, .int l4)] → W p l e rm_X9_tell s m args below meth c H locs 0 0 Q (F0 m 23 ls [])) (k_b33 : (Nat → Int32) → Int32 → Int32 → Int32 → Int32 → Int32 → Option (Int32 × (Nat → Int32))) (hk_b33 : ∀ (refused : (Nat → Int32)) (l1 : Int32) (l2 : Int32) (l3 : Int32) (l4 : Int32) (l5 : Int32) (H : Heap) (locs : List Loc) (ls : Array Slot), k_b33 refused l1 l2 l3 l4 l5 = some rv → sS D vwCl A s.heap (wd_X9_tell cI cB cZ a_this a_all a_kept a_isKept a_refused a_hand a_outs a_order0 a_bestOrder a_tells a_bytes a_anew a_values all refused above below_ bytesLong tokenAt tokenLong token value) H locs → lv_has ls 10 [(0, .ref a_this), (1, .int l1), (2, .int l2), (3, .int l3), (4, .int l4), (5, .int l5)] → W p l e rm_X9_tell s m args below meth c H locs 0 0 Q (F0 m 33 ls [])) : ∀ (refused : (Nat → Int32)) (l1 : Int32) (l2 : Int32) (l4 : Int32) (l5 : Int32) (t0 : Int32) (H : Heap) (locs : List Loc) (ls : Array Slot), f_X9_tell_b182 k_b23 k_b33 all refused l1 l2 l4 l5 t0 = some rv → sS D vwCl A s.heap (wd_X9_tell cI cB cZ a_this a_all a_kept a_isKept a_refused a_hand a_outs a_order0 a_bestOrder a_tells a_bytes a_anew a_values all refused above below_ bytesLong tokenAt tokenLong token value) H locs → lv_has ls 10 [(0, .ref a_this), (1, .int l1), (2, .int l2), (4, .int l4), (5, .int l5)] → W p l e rm_X9_tell s m args below meth c H locs 0 0 Q (F0 m 182 ls [.int t0]) := by
  obtain ⟨hx, hb, hml, hown, hts, hK, hA⟩ := id C0
  intro refused l1 l2 l4 l5 t0 H locs ls h hS hl
  unfold f_X9_tell_b182 at h
  refine lv_istore_n (lv' := [(3, .int t0), (0, .ref a_this), (1, .int l1), (2, .int l2), (4, .int l4), (5, .int l5)]) hx hb dX9_tell_182 rfl hl (by decide) rfl (fun ls hl => ?_)
  refine lv_iinc (v := (l5 + (1 : Int32))) (lv' := [(5, .int (l5 + (1 : Int32))), (3, .int t0), (0, .ref a_this), (1, .int l1), (2, .int l2), (4, .int l4)]) hx hb dX9_tell_183 hl (k := 5) rfl rfl (by decide) rfl (fun ls hl => ?_)
  refine lv_goto (tgt := 33) hx hb dX9_tell_186 (by decide) ?_
  exact hk_b33 refused l1 l2 t0 l4 (l5 + (1 : Int32)) _ _ _ h hS (lv_sub hl [2, 3, 4, 1, 5, 0] rfl)
def f_X9_tell_b181 (k_b23 : (Nat → Int32) → Int32 → Int32 → Int32 → Int32 → Option (Int32 × (Nat → Int32))) (k_b33 : (Nat → Int32) → Int32 → Int32 → Int32 → Int32 → Int32 → Option (Int32 × (Nat → Int32)))  (all : (Nat → Int32)) (refused : (Nat → Int32)) (l1 : Int32) (l2 : Int32) (l3 : Int32) (l4 : Int32) (l5 : Int32) : Option (Int32 × (Nat → Int32)) := f_X9_tell_b182 k_b23 k_b33 all refused l1 l2 l4 l5 l3
set_option maxHeartbeats 4000000 in
set_option maxRecDepth 100000 in
theorem w_X9_tell_b181 {p : Program} {l : Launch} {e : Env} {s : State} {m : MethodId} {args : Array Value} {below : List Frame} {meth : Method} {c : Code} {A : Nat → Prop} {Q : State → Prop} {D : va_G} {cI cB cZ : ClassId} {a_this a_all a_kept a_isKept a_refused a_hand a_outs a_order0 a_bestOrder a_tells a_bytes a_anew a_values : Nat} {all : (Nat → Int32)} {above : Int64} {below_ : Int64} {bytesLong : Int32} {tokenAt : Int32} {tokenLong : Int32} {token : Int32} {value : Int32} (C0 : Cx p s m args c cX9_tell 10 RX9 wsX9_tell D (s_tys cI cB cZ) A) {rv : Int32 × (Nat → Int32)} (hend : ∀ (pc : Nat) (H : Heap) (locs : List Loc) (ls : Array Slot), decode cX9_tell pc = .ok (.ireturn, 1) → sS D vwCl A s.heap (wd_X9_tell cI cB cZ a_this a_all a_kept a_isKept a_refused a_hand a_outs a_order0 a_bestOrder a_tells a_bytes a_anew a_values all rv.2 above below_ bytesLong tokenAt tokenLong token value) H locs → W p l e rm_X9_tell s m args below meth c H locs 0 0 Q (F0 m pc ls [.int rv.1])) (k_b23 : (Nat → Int32) → Int32 → Int32 → Int32 → Int32 → Option (Int32 × (Nat → Int32))) (hk_b23 : ∀ (refused : (Nat → Int32)) (l1 : Int32) (l2 : Int32) (l3 : Int32) (l4 : Int32) (H : Heap) (locs : List Loc) (ls : Array Slot), k_b23 refused l1 l2 l3 l4 = some rv → sS D vwCl A s.heap (wd_X9_tell cI cB cZ a_this a_all a_kept a_isKept a_refused a_hand a_outs a_order0 a_bestOrder a_tells a_bytes a_anew a_values all refused above below_ bytesLong tokenAt tokenLong token value) H locs → lv_has ls 10 [(0, .ref a_this), (1, .int l1), (2, .int l2), (3, .int l3), (4, .int l4)] → W p l e rm_X9_tell s m args below meth c H locs 0 0 Q (F0 m 23 ls [])) (k_b33 : (Nat → Int32) → Int32 → Int32 → Int32 → Int32 → Int32 → Option (Int32 × (Nat → Int32))) (hk_b33 : ∀ (refused : (Nat → Int32)) (l1 : Int32) (l2 : Int32) (l3 : Int32) (l4 : Int32) (l5 : Int32) (H : Heap) (locs : List Loc) (ls : Array Slot), k_b33 refused l1 l2 l3 l4 l5 = some rv → sS D vwCl A s.heap (wd_X9_tell cI cB cZ a_this a_all a_kept a_isKept a_refused a_hand a_outs a_order0 a_bestOrder a_tells a_bytes a_anew a_values all refused above below_ bytesLong tokenAt tokenLong token value) H locs → lv_has ls 10 [(0, .ref a_this), (1, .int l1), (2, .int l2), (3, .int l3), (4, .int l4), (5, .int l5)] → W p l e rm_X9_tell s m args below meth c H locs 0 0 Q (F0 m 33 ls [])) : ∀ (refused : (Nat → Int32)) (l1 : Int32) (l2 : Int32) (l3 : Int32) (l4 : Int32) (l5 : Int32) (H : Heap) (locs : List Loc) (ls : Array Slot), f_X9_tell_b181 k_b23 k_b33 all refused l1 l2 l3 l4 l5 = some rv → sS D vwCl A s.heap (wd_X9_tell cI cB cZ a_this a_all a_kept a_isKept a_refused a_hand a_outs a_order0 a_bestOrder a_tells a_bytes a_anew a_values all refused above below_ bytesLong tokenAt tokenLong token value) H locs → lv_has ls 10 [(0, .ref a_this), (1, .int l1), (2, .int l2), (3, .int l3), (4, .int l4), (5, .int l5)] → W p l e rm_X9_tell s m args below meth c H locs 0 0 Q (F0 m 181 ls []) := by
  obtain ⟨hx, hb, hml, hown, hts, hK, hA⟩ := id C0
  intro refused l1 l2 l3 l4 l5 H locs ls h hS hl
  unfold f_X9_tell_b181 at h
  refine lv_iload_n hx hb dX9_tell_181 rfl (lv_at hl 3 rfl) ?_
  exact w_X9_tell_b182 C0 hend k_b23 hk_b23 k_b33 hk_b33 refused l1 l2 l4 l5 l3 _ _ _ h hS (lv_sub hl [0, 1, 2, 4, 5] rfl)
def f_X9_tell_b164 (k_b23 : (Nat → Int32) → Int32 → Int32 → Int32 → Int32 → Option (Int32 × (Nat → Int32))) (k_b33 : (Nat → Int32) → Int32 → Int32 → Int32 → Int32 → Int32 → Option (Int32 × (Nat → Int32)))  (all : (Nat → Int32)) (refused : (Nat → Int32)) (l1 : Int32) (l3 : Int32) (l4 : Int32) (l5 : Int32) (l8 : Int32) (t0 : Int32) : Option (Int32 × (Nat → Int32)) := (if l8 ≤ 0 then f_X9_tell_b181 k_b23 k_b33 all refused l1 t0 l3 l4 l5 else (if l3 ≤ l8 then f_X9_tell_b181 k_b23 k_b33 all refused l1 t0 l3 l4 l5 else f_X9_tell_b182 k_b23 k_b33 all refused l1 t0 l4 l5 l8))
set_option maxHeartbeats 4000000 in
set_option maxRecDepth 100000 in
theorem w_X9_tell_b164 {p : Program} {l : Launch} {e : Env} {s : State} {m : MethodId} {args : Array Value} {below : List Frame} {meth : Method} {c : Code} {A : Nat → Prop} {Q : State → Prop} {D : va_G} {cI cB cZ : ClassId} {a_this a_all a_kept a_isKept a_refused a_hand a_outs a_order0 a_bestOrder a_tells a_bytes a_anew a_values : Nat} {all : (Nat → Int32)} {above : Int64} {below_ : Int64} {bytesLong : Int32} {tokenAt : Int32} {tokenLong : Int32} {token : Int32} {value : Int32} (C0 : Cx p s m args c cX9_tell 10 RX9 wsX9_tell D (s_tys cI cB cZ) A) {rv : Int32 × (Nat → Int32)} (hend : ∀ (pc : Nat) (H : Heap) (locs : List Loc) (ls : Array Slot), decode cX9_tell pc = .ok (.ireturn, 1) → sS D vwCl A s.heap (wd_X9_tell cI cB cZ a_this a_all a_kept a_isKept a_refused a_hand a_outs a_order0 a_bestOrder a_tells a_bytes a_anew a_values all rv.2 above below_ bytesLong tokenAt tokenLong token value) H locs → W p l e rm_X9_tell s m args below meth c H locs 0 0 Q (F0 m pc ls [.int rv.1])) (k_b23 : (Nat → Int32) → Int32 → Int32 → Int32 → Int32 → Option (Int32 × (Nat → Int32))) (hk_b23 : ∀ (refused : (Nat → Int32)) (l1 : Int32) (l2 : Int32) (l3 : Int32) (l4 : Int32) (H : Heap) (locs : List Loc) (ls : Array Slot), k_b23 refused l1 l2 l3 l4 = some rv → sS D vwCl A s.heap (wd_X9_tell cI cB cZ a_this a_all a_kept a_isKept a_refused a_hand a_outs a_order0 a_bestOrder a_tells a_bytes a_anew a_values all refused above below_ bytesLong tokenAt tokenLong token value) H locs → lv_has ls 10 [(0, .ref a_this), (1, .int l1), (2, .int l2), (3, .int l3), (4, .int l4)] → W p l e rm_X9_tell s m args below meth c H locs 0 0 Q (F0 m 23 ls [])) (k_b33 : (Nat → Int32) → Int32 → Int32 → Int32 → Int32 → Int32 → Option (Int32 × (Nat → Int32))) (hk_b33 : ∀ (refused : (Nat → Int32)) (l1 : Int32) (l2 : Int32) (l3 : Int32) (l4 : Int32) (l5 : Int32) (H : Heap) (locs : List Loc) (ls : Array Slot), k_b33 refused l1 l2 l3 l4 l5 = some rv → sS D vwCl A s.heap (wd_X9_tell cI cB cZ a_this a_all a_kept a_isKept a_refused a_hand a_outs a_order0 a_bestOrder a_tells a_bytes a_anew a_values all refused above below_ bytesLong tokenAt tokenLong token value) H locs → lv_has ls 10 [(0, .ref a_this), (1, .int l1), (2, .int l2), (3, .int l3), (4, .int l4), (5, .int l5)] → W p l e rm_X9_tell s m args below meth c H locs 0 0 Q (F0 m 33 ls [])) : ∀ (refused : (Nat → Int32)) (l1 : Int32) (l3 : Int32) (l4 : Int32) (l5 : Int32) (l8 : Int32) (t0 : Int32) (H : Heap) (locs : List Loc) (ls : Array Slot), f_X9_tell_b164 k_b23 k_b33 all refused l1 l3 l4 l5 l8 t0 = some rv → sS D vwCl A s.heap (wd_X9_tell cI cB cZ a_this a_all a_kept a_isKept a_refused a_hand a_outs a_order0 a_bestOrder a_tells a_bytes a_anew a_values all refused above below_ bytesLong tokenAt tokenLong token value) H locs → lv_has ls 10 [(0, .ref a_this), (1, .int l1), (3, .int l3), (4, .int l4), (5, .int l5), (8, .int l8)] → W p l e rm_X9_tell s m args below meth c H locs 0 0 Q (F0 m 164 ls [.int t0]) := by
  obtain ⟨hx, hb, hml, hown, hts, hK, hA⟩ := id C0
  intro refused l1 l3 l4 l5 l8 t0 H locs ls h hS hl
  unfold f_X9_tell_b164 at h
  refine lv_istore_n (lv' := [(2, .int t0), (0, .ref a_this), (1, .int l1), (3, .int l3), (4, .int l4), (5, .int l5), (8, .int l8)]) hx hb dX9_tell_164 rfl hl (by decide) rfl (fun ls hl => ?_)
  refine lv_iload hx hb dX9_tell_165 (lv_at hl 6 rfl) ?_
  refine lv_if_le (tgt := 181) hx hb dX9_tell_167 (by decide) (fun c1 => ?_) (fun c1 => ?_)
  · replace h := s_yes c1 h
    exact w_X9_tell_b181 C0 hend k_b23 hk_b23 k_b33 hk_b33 refused l1 t0 l3 l4 l5 _ _ _ h hS (lv_sub hl [1, 2, 0, 3, 4, 5] rfl)
  replace h := s_no c1 h
  refine lv_iload hx hb dX9_tell_170 (lv_at hl 6 rfl) ?_
  refine lv_iload_n hx hb dX9_tell_172 rfl (lv_at hl 3 rfl) ?_
  refine lv_icmp_ge (tgt := 181) hx hb dX9_tell_173 (by decide) (fun c2 => ?_) (fun c2 => ?_)
  · replace h := s_yes c2 h
    exact w_X9_tell_b181 C0 hend k_b23 hk_b23 k_b33 hk_b33 refused l1 t0 l3 l4 l5 _ _ _ h hS (lv_sub hl [1, 2, 0, 3, 4, 5] rfl)
  replace h := s_no c2 h
  refine lv_iload hx hb dX9_tell_176 (lv_at hl 6 rfl) ?_
  refine lv_goto (tgt := 182) hx hb dX9_tell_178 (by decide) ?_
  exact w_X9_tell_b182 C0 hend k_b23 hk_b23 k_b33 hk_b33 refused l1 t0 l4 l5 l8 _ _ _ h hS (lv_sub hl [1, 2, 0, 4, 5] rfl)
def f_X9_tell_b163 (k_b23 : (Nat → Int32) → Int32 → Int32 → Int32 → Int32 → Option (Int32 × (Nat → Int32))) (k_b33 : (Nat → Int32) → Int32 → Int32 → Int32 → Int32 → Int32 → Option (Int32 × (Nat → Int32)))  (all : (Nat → Int32)) (refused : (Nat → Int32)) (l1 : Int32) (l2 : Int32) (l3 : Int32) (l4 : Int32) (l5 : Int32) (l8 : Int32) : Option (Int32 × (Nat → Int32)) := f_X9_tell_b164 k_b23 k_b33 all refused l1 l3 l4 l5 l8 l2
set_option maxHeartbeats 4000000 in
set_option maxRecDepth 100000 in
theorem w_X9_tell_b163 {p : Program} {l : Launch} {e : Env} {s : State} {m : MethodId} {args : Array Value} {below : List Frame} {meth : Method} {c : Code} {A : Nat → Prop} {Q : State → Prop} {D : va_G} {cI cB cZ : ClassId} {a_this a_all a_kept a_isKept a_refused a_hand a_outs a_order0 a_bestOrder a_tells a_bytes a_anew a_values : Nat} {all : (Nat → Int32)} {above : Int64} {below_ : Int64} {bytesLong : Int32} {tokenAt : Int32} {tokenLong : Int32} {token : Int32} {value : Int32} (C0 : Cx p s m args c cX9_tell 10 RX9 wsX9_tell D (s_tys cI cB cZ) A) {rv : Int32 × (Nat → Int32)} (hend : ∀ (pc : Nat) (H : Heap) (locs : List Loc) (ls : Array Slot), decode cX9_tell pc = .ok (.ireturn, 1) → sS D vwCl A s.heap (wd_X9_tell cI cB cZ a_this a_all a_kept a_isKept a_refused a_hand a_outs a_order0 a_bestOrder a_tells a_bytes a_anew a_values all rv.2 above below_ bytesLong tokenAt tokenLong token value) H locs → W p l e rm_X9_tell s m args below meth c H locs 0 0 Q (F0 m pc ls [.int rv.1])) (k_b23 : (Nat → Int32) → Int32 → Int32 → Int32 → Int32 → Option (Int32 × (Nat → Int32))) (hk_b23 : ∀ (refused : (Nat → Int32)) (l1 : Int32) (l2 : Int32) (l3 : Int32) (l4 : Int32) (H : Heap) (locs : List Loc) (ls : Array Slot), k_b23 refused l1 l2 l3 l4 = some rv → sS D vwCl A s.heap (wd_X9_tell cI cB cZ a_this a_all a_kept a_isKept a_refused a_hand a_outs a_order0 a_bestOrder a_tells a_bytes a_anew a_values all refused above below_ bytesLong tokenAt tokenLong token value) H locs → lv_has ls 10 [(0, .ref a_this), (1, .int l1), (2, .int l2), (3, .int l3), (4, .int l4)] → W p l e rm_X9_tell s m args below meth c H locs 0 0 Q (F0 m 23 ls [])) (k_b33 : (Nat → Int32) → Int32 → Int32 → Int32 → Int32 → Int32 → Option (Int32 × (Nat → Int32))) (hk_b33 : ∀ (refused : (Nat → Int32)) (l1 : Int32) (l2 : Int32) (l3 : Int32) (l4 : Int32) (l5 : Int32) (H : Heap) (locs : List Loc) (ls : Array Slot), k_b33 refused l1 l2 l3 l4 l5 = some rv → sS D vwCl A s.heap (wd_X9_tell cI cB cZ a_this a_all a_kept a_isKept a_refused a_hand a_outs a_order0 a_bestOrder a_tells a_bytes a_anew a_values all refused above below_ bytesLong tokenAt tokenLong token value) H locs → lv_has ls 10 [(0, .ref a_this), (1, .int l1), (2, .int l2), (3, .int l3), (4, .int l4), (5, .int l5)] → W p l e rm_X9_tell s m args below meth c H locs 0 0 Q (F0 m 33 ls [])) : ∀ (refused : (Nat → Int32)) (l1 : Int32) (l2 : Int32) (l3 : Int32) (l4 : Int32) (l5 : Int32) (l8 : Int32) (H : Heap) (locs : List Loc) (ls : Array Slot), f_X9_tell_b163 k_b23 k_b33 all refused l1 l2 l3 l4 l5 l8 = some rv → sS D vwCl A s.heap (wd_X9_tell cI cB cZ a_this a_all a_kept a_isKept a_refused a_hand a_outs a_order0 a_bestOrder a_tells a_bytes a_anew a_values all refused above below_ bytesLong tokenAt tokenLong token value) H locs → lv_has ls 10 [(0, .ref a_this), (1, .int l1), (2, .int l2), (3, .int l3), (4, .int l4), (5, .int l5), (8, .int l8)] → W p l e rm_X9_tell s m args below meth c H locs 0 0 Q (F0 m 163 ls []) := by
  obtain ⟨hx, hb, hml, hown, hts, hK, hA⟩ := id C0
  intro refused l1 l2 l3 l4 l5 l8 H locs ls h hS hl
  unfold f_X9_tell_b163 at h
  refine lv_iload_n hx hb dX9_tell_163 rfl (lv_at hl 2 rfl) ?_
  exact w_X9_tell_b164 C0 hend k_b23 hk_b23 k_b33 hk_b33 refused l1 l3 l4 l5 l8 l2 _ _ _ h hS (lv_sub hl [0, 1, 3, 4, 5, 6] rfl)
def f_X9_tell_b139 (k_b23 : (Nat → Int32) → Int32 → Int32 → Int32 → Int32 → Option (Int32 × (Nat → Int32))) (k_b33 : (Nat → Int32) → Int32 → Int32 → Int32 → Int32 → Int32 → Option (Int32 × (Nat → Int32)))  (all : (Nat → Int32)) (refused : (Nat → Int32)) (l1 : Int32) (l2 : Int32) (l3 : Int32) (l4 : Int32) (l5 : Int32) (t0 : Int32) : Option (Int32 × (Nat → Int32)) := (if t0 ≤ 0 then f_X9_tell_b163 k_b23 k_b33 all refused l1 l2 l3 l4 l5 t0 else (if l3 ≤ t0 then f_X9_tell_b163 k_b23 k_b33 all refused l1 l2 l3 l4 l5 t0 else f_X9_tell_b164 k_b23 k_b33 all refused l1 l3 l4 l5 t0 (((10 : Int32) * l4) + l5)))
set_option maxHeartbeats 4000000 in
set_option maxRecDepth 100000 in
theorem w_X9_tell_b139 {p : Program} {l : Launch} {e : Env} {s : State} {m : MethodId} {args : Array Value} {below : List Frame} {meth : Method} {c : Code} {A : Nat → Prop} {Q : State → Prop} {D : va_G} {cI cB cZ : ClassId} {a_this a_all a_kept a_isKept a_refused a_hand a_outs a_order0 a_bestOrder a_tells a_bytes a_anew a_values : Nat} {all : (Nat → Int32)} {above : Int64} {below_ : Int64} {bytesLong : Int32} {tokenAt : Int32} {tokenLong : Int32} {token : Int32} {value : Int32} (C0 : Cx p s m args c cX9_tell 10 RX9 wsX9_tell D (s_tys cI cB cZ) A) {rv : Int32 × (Nat → Int32)} (hend : ∀ (pc : Nat) (H : Heap) (locs : List Loc) (ls : Array Slot), decode cX9_tell pc = .ok (.ireturn, 1) → sS D vwCl A s.heap (wd_X9_tell cI cB cZ a_this a_all a_kept a_isKept a_refused a_hand a_outs a_order0 a_bestOrder a_tells a_bytes a_anew a_values all rv.2 above below_ bytesLong tokenAt tokenLong token value) H locs → W p l e rm_X9_tell s m args below meth c H locs 0 0 Q (F0 m pc ls [.int rv.1])) (k_b23 : (Nat → Int32) → Int32 → Int32 → Int32 → Int32 → Option (Int32 × (Nat → Int32))) (hk_b23 : ∀ (refused : (Nat → Int32)) (l1 : Int32) (l2 : Int32) (l3 : Int32) (l4 : Int32) (H : Heap) (locs : List Loc) (ls : Array Slot), k_b23 refused l1 l2 l3 l4 = some rv → sS D vwCl A s.heap (wd_X9_tell cI cB cZ a_this a_all a_kept a_isKept a_refused a_hand a_outs a_order0 a_bestOrder a_tells a_bytes a_anew a_values all refused above below_ bytesLong tokenAt tokenLong token value) H locs → lv_has ls 10 [(0, .ref a_this), (1, .int l1), (2, .int l2), (3, .int l3), (4, .int l4)] → W p l e rm_X9_tell s m args below meth c H locs 0 0 Q (F0 m 23 ls [])) (k_b33 : (Nat → Int32) → Int32 → Int32 → Int32 → Int32 → Int32 → Option (Int32 × (Nat → Int32))) (hk_b33 : ∀ (refused : (Nat → Int32)) (l1 : Int32) (l2 : Int32) (l3 : Int32) (l4 : Int32) (l5 : Int32) (H : Heap) (locs : List Loc) (ls : Array Slot), k_b33 refused l1 l2 l3 l4 l5 = some rv → sS D vwCl A s.heap (wd_X9_tell cI cB cZ a_this a_all a_kept a_isKept a_refused a_hand a_outs a_order0 a_bestOrder a_tells a_bytes a_anew a_values all refused above below_ bytesLong tokenAt tokenLong token value) H locs → lv_has ls 10 [(0, .ref a_this), (1, .int l1), (2, .int l2), (3, .int l3), (4, .int l4), (5, .int l5)] → W p l e rm_X9_tell s m args below meth c H locs 0 0 Q (F0 m 33 ls [])) : ∀ (refused : (Nat → Int32)) (l1 : Int32) (l2 : Int32) (l3 : Int32) (l4 : Int32) (l5 : Int32) (t0 : Int32) (H : Heap) (locs : List Loc) (ls : Array Slot), f_X9_tell_b139 k_b23 k_b33 all refused l1 l2 l3 l4 l5 t0 = some rv → sS D vwCl A s.heap (wd_X9_tell cI cB cZ a_this a_all a_kept a_isKept a_refused a_hand a_outs a_order0 a_bestOrder a_tells a_bytes a_anew a_values all refused above below_ bytesLong tokenAt tokenLong token value) H locs → lv_has ls 10 [(0, .ref a_this), (1, .int l1), (2, .int l2), (3, .int l3), (4, .int l4), (5, .int l5)] → W p l e rm_X9_tell s m args below meth c H locs 0 0 Q (F0 m 139 ls [.int t0]) := by
  obtain ⟨hx, hb, hml, hown, hts, hK, hA⟩ := id C0
  intro refused l1 l2 l3 l4 l5 t0 H locs ls h hS hl
  unfold f_X9_tell_b139 at h
  refine lv_istore (lv' := [(8, .int t0), (0, .ref a_this), (1, .int l1), (2, .int l2), (3, .int l3), (4, .int l4), (5, .int l5)]) hx hb dX9_tell_139 hl (by decide) rfl (fun ls hl => ?_)
  refine lv_iload hx hb dX9_tell_141 (lv_at hl 0 rfl) ?_
  refine lv_if_le (tgt := 163) hx hb dX9_tell_143 (by decide) (fun c3 => ?_) (fun c3 => ?_)
  · replace h := s_yes c3 h
    exact w_X9_tell_b163 C0 hend k_b23 hk_b23 k_b33 hk_b33 refused l1 l2 l3 l4 l5 t0 _ _ _ h hS (lv_sub hl [1, 2, 3, 4, 5, 6, 0] rfl)
  replace h := s_no c3 h
  refine lv_iload hx hb dX9_tell_146 (lv_at hl 0 rfl) ?_
  refine lv_iload_n hx hb dX9_tell_148 rfl (lv_at hl 4 rfl) ?_
  refine lv_icmp_ge (tgt := 163) hx hb dX9_tell_149 (by decide) (fun c4 => ?_) (fun c4 => ?_)
  · replace h := s_yes c4 h
    exact w_X9_tell_b163 C0 hend k_b23 hk_b23 k_b33 hk_b33 refused l1 l2 l3 l4 l5 t0 _ _ _ h hS (lv_sub hl [1, 2, 3, 4, 5, 6, 0] rfl)
  replace h := s_no c4 h
  refine lv_bipush (v := (10 : Int32)) hx hb dX9_tell_152 (by decide) ?_
  refine lv_iload hx hb dX9_tell_154 (lv_at hl 5 rfl) ?_
  refine lv_imul hx hb dX9_tell_156 ?_
  refine lv_iload hx hb dX9_tell_157 (lv_at hl 6 rfl) ?_
  refine lv_iadd hx hb dX9_tell_159 ?_
  refine lv_goto (tgt := 164) hx hb dX9_tell_160 (by decide) ?_
  exact w_X9_tell_b164 C0 hend k_b23 hk_b23 k_b33 hk_b33 refused l1 l3 l4 l5 t0 (((10 : Int32) * l4) + l5) _ _ _ h hS (lv_sub hl [1, 2, 4, 5, 6, 0] rfl)
def f_X9_tell_b116 (k_b23 : (Nat → Int32) → Int32 → Int32 → Int32 → Int32 → Option (Int32 × (Nat → Int32))) (k_b33 : (Nat → Int32) → Int32 → Int32 → Int32 → Int32 → Int32 → Option (Int32 × (Nat → Int32))) (k_b49 : (Nat → Int32) → Int32 → Int32 → Int32 → Int32 → Int32 → Int32 → Int32 → Int32 → Option (Int32 × (Nat → Int32)))  (all : (Nat → Int32)) (refused : (Nat → Int32)) (l1 : Int32) (l2 : Int32) (l3 : Int32) (l4 : Int32) (l5 : Int32) (l6 : Int32) (l8 : Int32) (t0 : Int32) (t1 : Int32) : Option (Int32 × (Nat → Int32)) := k_b49 refused l1 l2 l3 l4 l5 l6 (t1 + t0) (l8 + (1 : Int32))
set_option maxHeartbeats 4000000 in
set_option maxRecDepth 100000 in
theorem w_X9_tell_b116 {p : Program} {l : Launch} {e : Env} {s : State} {m : MethodId} {args : Array Value} {below : List Frame} {meth : Method} {c : Code} {A : Nat → Prop} {Q : State → Prop} {D : va_G} {cI cB cZ : ClassId} {a_this a_all a_kept a_isKept a_refused a_hand a_outs a_order0 a_bestOrder a_tells a_bytes a_anew a_values : Nat} {all : (Nat → Int32)} {above : Int64} {below_ : Int64} {bytesLong : Int32} {tokenAt : Int32} {tokenLong : Int32} {token : Int32} {value : Int32} (C0 : Cx p s m args c cX9_tell 10 RX9 wsX9_tell D (s_tys cI cB cZ) A) {rv : Int32 × (Nat → Int32)} (hend : ∀ (pc : Nat) (H : Heap) (locs : List Loc) (ls : Array Slot), decode cX9_tell pc = .ok (.ireturn, 1) → sS D vwCl A s.heap (wd_X9_tell cI cB cZ a_this a_all a_kept a_isKept a_refused a_hand a_outs a_order0 a_bestOrder a_tells a_bytes a_anew a_values all rv.2 above below_ bytesLong tokenAt tokenLong token value) H locs → W p l e rm_X9_tell s m args below meth c H locs 0 0 Q (F0 m pc ls [.int rv.1])) (k_b23 : (Nat → Int32) → Int32 → Int32 → Int32 → Int32 → Option (Int32 × (Nat → Int32))) (hk_b23 : ∀ (refused : (Nat → Int32)) (l1 : Int32) (l2 : Int32) (l3 : Int32) (l4 : Int32) (H : Heap) (locs : List Loc) (ls : Array Slot), k_b23 refused l1 l2 l3 l4 = some rv → sS D vwCl A s.heap (wd_X9_tell cI cB cZ a_this a_all a_kept a_isKept a_refused a_hand a_outs a_order0 a_bestOrder a_tells a_bytes a_anew a_values all refused above below_ bytesLong tokenAt tokenLong token value) H locs → lv_has ls 10 [(0, .ref a_this), (1, .int l1), (2, .int l2), (3, .int l3), (4, .int l4)] → W p l e rm_X9_tell s m args below meth c H locs 0 0 Q (F0 m 23 ls [])) (k_b33 : (Nat → Int32) → Int32 → Int32 → Int32 → Int32 → Int32 → Option (Int32 × (Nat → Int32))) (hk_b33 : ∀ (refused : (Nat → Int32)) (l1 : Int32) (l2 : Int32) (l3 : Int32) (l4 : Int32) (l5 : Int32) (H : Heap) (locs : List Loc) (ls : Array Slot), k_b33 refused l1 l2 l3 l4 l5 = some rv → sS D vwCl A s.heap (wd_X9_tell cI cB cZ a_this a_all a_kept a_isKept a_refused a_hand a_outs a_order0 a_bestOrder a_tells a_bytes a_anew a_values all refused above below_ bytesLong tokenAt tokenLong token value) H locs → lv_has ls 10 [(0, .ref a_this), (1, .int l1), (2, .int l2), (3, .int l3), (4, .int l4), (5, .int l5)] → W p l e rm_X9_tell s m args below meth c H locs 0 0 Q (F0 m 33 ls [])) (k_b49 : (Nat → Int32) → Int32 → Int32 → Int32 → Int32 → Int32 → Int32 → Int32 → Int32 → Option (Int32 × (Nat → Int32))) (hk_b49 : ∀ (refused : (Nat → Int32)) (l1 : Int32) (l2 : Int32) (l3 : Int32) (l4 : Int32) (l5 : Int32) (l6 : Int32) (l7 : Int32) (l8 : Int32) (H : Heap) (locs : List Loc) (ls : Array Slot), k_b49 refused l1 l2 l3 l4 l5 l6 l7 l8 = some rv → sS D vwCl A s.heap (wd_X9_tell cI cB cZ a_this a_all a_kept a_isKept a_refused a_hand a_outs a_order0 a_bestOrder a_tells a_bytes a_anew a_values all refused above below_ bytesLong tokenAt tokenLong token value) H locs → lv_has ls 10 [(0, .ref a_this), (1, .int l1), (2, .int l2), (3, .int l3), (4, .int l4), (5, .int l5), (6, .int l6), (7, .int l7), (8, .int l8)] → W p l e rm_X9_tell s m args below meth c H locs 0 0 Q (F0 m 49 ls [])) : ∀ (refused : (Nat → Int32)) (l1 : Int32) (l2 : Int32) (l3 : Int32) (l4 : Int32) (l5 : Int32) (l6 : Int32) (l8 : Int32) (t0 : Int32) (t1 : Int32) (H : Heap) (locs : List Loc) (ls : Array Slot), f_X9_tell_b116 k_b23 k_b33 k_b49 all refused l1 l2 l3 l4 l5 l6 l8 t0 t1 = some rv → sS D vwCl A s.heap (wd_X9_tell cI cB cZ a_this a_all a_kept a_isKept a_refused a_hand a_outs a_order0 a_bestOrder a_tells a_bytes a_anew a_values all refused above below_ bytesLong tokenAt tokenLong token value) H locs → lv_has ls 10 [(0, .ref a_this), (1, .int l1), (2, .int l2), (3, .int l3), (4, .int l4), (5, .int l5), (6, .int l6), (8, .int l8)] → W p l e rm_X9_tell s m args below meth c H locs 0 0 Q (F0 m 116 ls [.int t0, .int t1]) := by
  obtain ⟨hx, hb, hml, hown, hts, hK, hA⟩ := id C0
  intro refused l1 l2 l3 l4 l5 l6 l8 t0 t1 H locs ls h hS hl
  unfold f_X9_tell_b116 at h
  refine lv_iadd hx hb dX9_tell_116 ?_
  refine lv_istore (lv' := [(7, .int (t1 + t0)), (0, .ref a_this), (1, .int l1), (2, .int l2), (3, .int l3), (4, .int l4), (5, .int l5), (6, .int l6), (8, .int l8)]) hx hb dX9_tell_117 hl (by decide) rfl (fun ls hl => ?_)
  refine lv_iinc (v := (l8 + (1 : Int32))) (lv' := [(8, .int (l8 + (1 : Int32))), (7, .int (t1 + t0)), (0, .ref a_this), (1, .int l1), (2, .int l2), (3, .int l3), (4, .int l4), (5, .int l5), (6, .int l6)]) hx hb dX9_tell_119 hl (k := 8) rfl rfl (by decide) rfl (fun ls hl => ?_)
  refine lv_goto (tgt := 49) hx hb dX9_tell_122 (by decide) ?_
  exact hk_b49 refused l1 l2 l3 l4 l5 l6 (t1 + t0) (l8 + (1 : Int32)) _ _ _ h hS (lv_sub hl [2, 3, 4, 5, 6, 7, 8, 1, 0] rfl)
def f_X9_tell_b115 (k_b23 : (Nat → Int32) → Int32 → Int32 → Int32 → Int32 → Option (Int32 × (Nat → Int32))) (k_b33 : (Nat → Int32) → Int32 → Int32 → Int32 → Int32 → Int32 → Option (Int32 × (Nat → Int32))) (k_b49 : (Nat → Int32) → Int32 → Int32 → Int32 → Int32 → Int32 → Int32 → Int32 → Int32 → Option (Int32 × (Nat → Int32)))  (all : (Nat → Int32)) (refused : (Nat → Int32)) (l1 : Int32) (l2 : Int32) (l3 : Int32) (l4 : Int32) (l5 : Int32) (l6 : Int32) (l8 : Int32) (t0 : Int32) : Option (Int32 × (Nat → Int32)) := f_X9_tell_b116 k_b23 k_b33 k_b49 all refused l1 l2 l3 l4 l5 l6 l8 (0 : Int32) t0
set_option maxHeartbeats 4000000 in
set_option maxRecDepth 100000 in
theorem w_X9_tell_b115 {p : Program} {l : Launch} {e : Env} {s : State} {m : MethodId} {args : Array Value} {below : List Frame} {meth : Method} {c : Code} {A : Nat → Prop} {Q : State → Prop} {D : va_G} {cI cB cZ : ClassId} {a_this a_all a_kept a_isKept a_refused a_hand a_outs a_order0 a_bestOrder a_tells a_bytes a_anew a_values : Nat} {all : (Nat → Int32)} {above : Int64} {below_ : Int64} {bytesLong : Int32} {tokenAt : Int32} {tokenLong : Int32} {token : Int32} {value : Int32} (C0 : Cx p s m args c cX9_tell 10 RX9 wsX9_tell D (s_tys cI cB cZ) A) {rv : Int32 × (Nat → Int32)} (hend : ∀ (pc : Nat) (H : Heap) (locs : List Loc) (ls : Array Slot), decode cX9_tell pc = .ok (.ireturn, 1) → sS D vwCl A s.heap (wd_X9_tell cI cB cZ a_this a_all a_kept a_isKept a_refused a_hand a_outs a_order0 a_bestOrder a_tells a_bytes a_anew a_values all rv.2 above below_ bytesLong tokenAt tokenLong token value) H locs → W p l e rm_X9_tell s m args below meth c H locs 0 0 Q (F0 m pc ls [.int rv.1])) (k_b23 : (Nat → Int32) → Int32 → Int32 → Int32 → Int32 → Option (Int32 × (Nat → Int32))) (hk_b23 : ∀ (refused : (Nat → Int32)) (l1 : Int32) (l2 : Int32) (l3 : Int32) (l4 : Int32) (H : Heap) (locs : List Loc) (ls : Array Slot), k_b23 refused l1 l2 l3 l4 = some rv → sS D vwCl A s.heap (wd_X9_tell cI cB cZ a_this a_all a_kept a_isKept a_refused a_hand a_outs a_order0 a_bestOrder a_tells a_bytes a_anew a_values all refused above below_ bytesLong tokenAt tokenLong token value) H locs → lv_has ls 10 [(0, .ref a_this), (1, .int l1), (2, .int l2), (3, .int l3), (4, .int l4)] → W p l e rm_X9_tell s m args below meth c H locs 0 0 Q (F0 m 23 ls [])) (k_b33 : (Nat → Int32) → Int32 → Int32 → Int32 → Int32 → Int32 → Option (Int32 × (Nat → Int32))) (hk_b33 : ∀ (refused : (Nat → Int32)) (l1 : Int32) (l2 : Int32) (l3 : Int32) (l4 : Int32) (l5 : Int32) (H : Heap) (locs : List Loc) (ls : Array Slot), k_b33 refused l1 l2 l3 l4 l5 = some rv → sS D vwCl A s.heap (wd_X9_tell cI cB cZ a_this a_all a_kept a_isKept a_refused a_hand a_outs a_order0 a_bestOrder a_tells a_bytes a_anew a_values all refused above below_ bytesLong tokenAt tokenLong token value) H locs → lv_has ls 10 [(0, .ref a_this), (1, .int l1), (2, .int l2), (3, .int l3), (4, .int l4), (5, .int l5)] → W p l e rm_X9_tell s m args below meth c H locs 0 0 Q (F0 m 33 ls [])) (k_b49 : (Nat → Int32) → Int32 → Int32 → Int32 → Int32 → Int32 → Int32 → Int32 → Int32 → Option (Int32 × (Nat → Int32))) (hk_b49 : ∀ (refused : (Nat → Int32)) (l1 : Int32) (l2 : Int32) (l3 : Int32) (l4 : Int32) (l5 : Int32) (l6 : Int32) (l7 : Int32) (l8 : Int32) (H : Heap) (locs : List Loc) (ls : Array Slot), k_b49 refused l1 l2 l3 l4 l5 l6 l7 l8 = some rv → sS D vwCl A s.heap (wd_X9_tell cI cB cZ a_this a_all a_kept a_isKept a_refused a_hand a_outs a_order0 a_bestOrder a_tells a_bytes a_anew a_values all refused above below_ bytesLong tokenAt tokenLong token value) H locs → lv_has ls 10 [(0, .ref a_this), (1, .int l1), (2, .int l2), (3, .int l3), (4, .int l4), (5, .int l5), (6, .int l6), (7, .int l7), (8, .int l8)] → W p l e rm_X9_tell s m args below meth c H locs 0 0 Q (F0 m 49 ls [])) : ∀ (refused : (Nat → Int32)) (l1 : Int32) (l2 : Int32) (l3 : Int32) (l4 : Int32) (l5 : Int32) (l6 : Int32) (l8 : Int32) (t0 : Int32) (H : Heap) (locs : List Loc) (ls : Array Slot), f_X9_tell_b115 k_b23 k_b33 k_b49 all refused l1 l2 l3 l4 l5 l6 l8 t0 = some rv → sS D vwCl A s.heap (wd_X9_tell cI cB cZ a_this a_all a_kept a_isKept a_refused a_hand a_outs a_order0 a_bestOrder a_tells a_bytes a_anew a_values all refused above below_ bytesLong tokenAt tokenLong token value) H locs → lv_has ls 10 [(0, .ref a_this), (1, .int l1), (2, .int l2), (3, .int l3), (4, .int l4), (5, .int l5), (6, .int l6), (8, .int l8)] → W p l e rm_X9_tell s m args below meth c H locs 0 0 Q (F0 m 115 ls [.int t0]) := by
  obtain ⟨hx, hb, hml, hown, hts, hK, hA⟩ := id C0
  intro refused l1 l2 l3 l4 l5 l6 l8 t0 H locs ls h hS hl
  unfold f_X9_tell_b115 at h
  refine lv_iconst (v := (0 : Int32)) hx hb dX9_tell_115 (by decide) ?_
  exact w_X9_tell_b116 C0 hend k_b23 hk_b23 k_b33 hk_b33 k_b49 hk_b49 refused l1 l2 l3 l4 l5 l6 l8 (0 : Int32) t0 _ _ _ h hS (lv_sub hl [0, 1, 2, 3, 4, 5, 6, 7] rfl)
def f_X9_tell_b91 (k_b23 : (Nat → Int32) → Int32 → Int32 → Int32 → Int32 → Option (Int32 × (Nat → Int32))) (k_b33 : (Nat → Int32) → Int32 → Int32 → Int32 → Int32 → Int32 → Option (Int32 × (Nat → Int32))) (k_b49 : (Nat → Int32) → Int32 → Int32 → Int32 → Int32 → Int32 → Int32 → Int32 → Int32 → Option (Int32 × (Nat → Int32)))  (all : (Nat → Int32)) (refused : (Nat → Int32)) (l1 : Int32) (l2 : Int32) (l3 : Int32) (l4 : Int32) (l5 : Int32) (l7 : Int32) (l8 : Int32) (l9 : Int32) (t0 : Int32) (t1 : Int32) : Option (Int32 × (Nat → Int32)) := ((f_X9_isOften all l1 l8).bind fun q5 => (if q5 = 0 then f_X9_tell_b115 k_b23 k_b33 k_b49 all refused l1 l2 l3 l4 l5 (t1 + t0) l8 l7 else (if l9 = 0 then f_X9_tell_b116 k_b23 k_b33 k_b49 all refused l1 l2 l3 l4 l5 (t1 + t0) l8 (1 : Int32) l7 else f_X9_tell_b115 k_b23 k_b33 k_b49 all refused l1 l2 l3 l4 l5 (t1 + t0) l8 l7)))
set_option maxHeartbeats 4000000 in
set_option maxRecDepth 100000 in
theorem w_X9_tell_b91 {p : Program} {l : Launch} {e : Env} {s : State} {m : MethodId} {args : Array Value} {below : List Frame} {meth : Method} {c : Code} {A : Nat → Prop} {Q : State → Prop} {D : va_G} {cI cB cZ : ClassId} {a_this a_all a_kept a_isKept a_refused a_hand a_outs a_order0 a_bestOrder a_tells a_bytes a_anew a_values : Nat} {all : (Nat → Int32)} {above : Int64} {below_ : Int64} {bytesLong : Int32} {tokenAt : Int32} {tokenLong : Int32} {token : Int32} {value : Int32} (C0 : Cx p s m args c cX9_tell 10 RX9 wsX9_tell D (s_tys cI cB cZ) A) {rv : Int32 × (Nat → Int32)} (hend : ∀ (pc : Nat) (H : Heap) (locs : List Loc) (ls : Array Slot), decode cX9_tell pc = .ok (.ireturn, 1) → sS D vwCl A s.heap (wd_X9_tell cI cB cZ a_this a_all a_kept a_isKept a_refused a_hand a_outs a_order0 a_bestOrder a_tells a_bytes a_anew a_values all rv.2 above below_ bytesLong tokenAt tokenLong token value) H locs → W p l e rm_X9_tell s m args below meth c H locs 0 0 Q (F0 m pc ls [.int rv.1])) (k_b23 : (Nat → Int32) → Int32 → Int32 → Int32 → Int32 → Option (Int32 × (Nat → Int32))) (hk_b23 : ∀ (refused : (Nat → Int32)) (l1 : Int32) (l2 : Int32) (l3 : Int32) (l4 : Int32) (H : Heap) (locs : List Loc) (ls : Array Slot), k_b23 refused l1 l2 l3 l4 = some rv → sS D vwCl A s.heap (wd_X9_tell cI cB cZ a_this a_all a_kept a_isKept a_refused a_hand a_outs a_order0 a_bestOrder a_tells a_bytes a_anew a_values all refused above below_ bytesLong tokenAt tokenLong token value) H locs → lv_has ls 10 [(0, .ref a_this), (1, .int l1), (2, .int l2), (3, .int l3), (4, .int l4)] → W p l e rm_X9_tell s m args below meth c H locs 0 0 Q (F0 m 23 ls [])) (k_b33 : (Nat → Int32) → Int32 → Int32 → Int32 → Int32 → Int32 → Option (Int32 × (Nat → Int32))) (hk_b33 : ∀ (refused : (Nat → Int32)) (l1 : Int32) (l2 : Int32) (l3 : Int32) (l4 : Int32) (l5 : Int32) (H : Heap) (locs : List Loc) (ls : Array Slot), k_b33 refused l1 l2 l3 l4 l5 = some rv → sS D vwCl A s.heap (wd_X9_tell cI cB cZ a_this a_all a_kept a_isKept a_refused a_hand a_outs a_order0 a_bestOrder a_tells a_bytes a_anew a_values all refused above below_ bytesLong tokenAt tokenLong token value) H locs → lv_has ls 10 [(0, .ref a_this), (1, .int l1), (2, .int l2), (3, .int l3), (4, .int l4), (5, .int l5)] → W p l e rm_X9_tell s m args below meth c H locs 0 0 Q (F0 m 33 ls [])) (k_b49 : (Nat → Int32) → Int32 → Int32 → Int32 → Int32 → Int32 → Int32 → Int32 → Int32 → Option (Int32 × (Nat → Int32))) (hk_b49 : ∀ (refused : (Nat → Int32)) (l1 : Int32) (l2 : Int32) (l3 : Int32) (l4 : Int32) (l5 : Int32) (l6 : Int32) (l7 : Int32) (l8 : Int32) (H : Heap) (locs : List Loc) (ls : Array Slot), k_b49 refused l1 l2 l3 l4 l5 l6 l7 l8 = some rv → sS D vwCl A s.heap (wd_X9_tell cI cB cZ a_this a_all a_kept a_isKept a_refused a_hand a_outs a_order0 a_bestOrder a_tells a_bytes a_anew a_values all refused above below_ bytesLong tokenAt tokenLong token value) H locs → lv_has ls 10 [(0, .ref a_this), (1, .int l1), (2, .int l2), (3, .int l3), (4, .int l4), (5, .int l5), (6, .int l6), (7, .int l7), (8, .int l8)] → W p l e rm_X9_tell s m args below meth c H locs 0 0 Q (F0 m 49 ls [])) : ∀ (refused : (Nat → Int32)) (l1 : Int32) (l2 : Int32) (l3 : Int32) (l4 : Int32) (l5 : Int32) (l7 : Int32) (l8 : Int32) (l9 : Int32) (t0 : Int32) (t1 : Int32) (H : Heap) (locs : List Loc) (ls : Array Slot), f_X9_tell_b91 k_b23 k_b33 k_b49 all refused l1 l2 l3 l4 l5 l7 l8 l9 t0 t1 = some rv → sS D vwCl A s.heap (wd_X9_tell cI cB cZ a_this a_all a_kept a_isKept a_refused a_hand a_outs a_order0 a_bestOrder a_tells a_bytes a_anew a_values all refused above below_ bytesLong tokenAt tokenLong token value) H locs → lv_has ls 10 [(0, .ref a_this), (1, .int l1), (2, .int l2), (3, .int l3), (4, .int l4), (5, .int l5), (7, .int l7), (8, .int l8), (9, .int l9)] → W p l e rm_X9_tell s m args below meth c H locs 0 0 Q (F0 m 91 ls [.int t0, .int t1]) := by
  obtain ⟨hx, hb, hml, hown, hts, hK, hA⟩ := id C0
  intro refused l1 l2 l3 l4 l5 l7 l8 l9 t0 t1 H locs ls h hS hl
  unfold f_X9_tell_b91 at h
  refine lv_iadd hx hb dX9_tell_91 ?_
  refine lv_istore (lv' := [(6, .int (t1 + t0)), (0, .ref a_this), (1, .int l1), (2, .int l2), (3, .int l3), (4, .int l4), (5, .int l5), (7, .int l7), (8, .int l8), (9, .int l9)]) hx hb dX9_tell_92 hl (by decide) rfl (fun ls hl => ?_)
  refine lv_iload hx hb dX9_tell_94 (lv_at hl 7 rfl) ?_
  refine lv_aload_n hx hb dX9_tell_96 rfl (lv_at hl 1 rfl) ?_
  refine lv_iload_n hx hb dX9_tell_97 rfl (lv_at hl 2 rfl) ?_
  refine lv_iload hx hb dX9_tell_98 (lv_at hl 8 rfl) ?_
  obtain ⟨q5, hq5, h⟩ := s_bind h
  refine u_calliV (r := q5) (As := [.int l1, .int l8]) (rest := [.int l7]) (wc := (wd_X9_isOften cI cB cZ a_this a_all a_kept a_isKept a_refused a_hand a_outs a_order0 a_bestOrder a_tells a_bytes a_anew a_values all above below_ bytesLong tokenAt tokenLong token value)) hx hb hml hown hts hK hA hl hS (c_X9_isOften l D cI cB cZ a_this a_all a_kept a_isKept a_refused a_hand a_outs a_order0 a_bestOrder a_tells a_bytes a_anew a_values all above below_ bytesLong tokenAt tokenLong token value l1 l8 _ _ hq5) (cwV 2 hts gX9_tell_X9_isOften rfl rfl rfl (by decide +kernel) ⟨Nat.le_of_ble_eq_true rfl, Nat.le_of_ble_eq_true rfl⟩) 0 rfl rfl [0, 1] rfl rfl rfl rfl (Nat.le_of_ble_eq_true rfl) dX9_tell_100 (fun H locs hS => ?_)
  refine lv_if_eq (tgt := 115) hx hb dX9_tell_103 (by decide) (fun c6 => ?_) (fun c6 => ?_)
  · replace h := s_yes c6 h
    exact w_X9_tell_b115 C0 hend k_b23 hk_b23 k_b33 hk_b33 k_b49 hk_b49 refused l1 l2 l3 l4 l5 (t1 + t0) l8 l7 _ _ _ h hS (lv_sub hl [1, 2, 3, 4, 5, 6, 0, 8] rfl)
  replace h := s_no c6 h
  refine lv_iload hx hb dX9_tell_106 (lv_at hl 9 rfl) ?_
  refine lv_if_ne (tgt := 115) hx hb dX9_tell_108 (by decide) (fun c7 => ?_) (fun c7 => ?_)
  · replace h := s_no c7 h
    exact w_X9_tell_b115 C0 hend k_b23 hk_b23 k_b33 hk_b33 k_b49 hk_b49 refused l1 l2 l3 l4 l5 (t1 + t0) l8 l7 _ _ _ h hS (lv_sub hl [1, 2, 3, 4, 5, 6, 0, 8] rfl)
  replace h := s_yes c7 h
  refine lv_iconst (v := (1 : Int32)) hx hb dX9_tell_111 (by decide) ?_
  refine lv_goto (tgt := 116) hx hb dX9_tell_112 (by decide) ?_
  exact w_X9_tell_b116 C0 hend k_b23 hk_b23 k_b33 hk_b33 k_b49 hk_b49 refused l1 l2 l3 l4 l5 (t1 + t0) l8 (1 : Int32) l7 _ _ _ h hS (lv_sub hl [1, 2, 3, 4, 5, 6, 0, 8] rfl)
def f_X9_tell_b90 (k_b23 : (Nat → Int32) → Int32 → Int32 → Int32 → Int32 → Option (Int32 × (Nat → Int32))) (k_b33 : (Nat → Int32) → Int32 → Int32 → Int32 → Int32 → Int32 → Option (Int32 × (Nat → Int32))) (k_b49 : (Nat → Int32) → Int32 → Int32 → Int32 → Int32 → Int32 → Int32 → Int32 → Int32 → Option (Int32 × (Nat → Int32)))  (all : (Nat → Int32)) (refused : (Nat → Int32)) (l1 : Int32) (l2 : Int32) (l3 : Int32) (l4 : Int32) (l5 : Int32) (l7 : Int32) (l8 : Int32) (l9 : Int32) (t0 : Int32) : Option (Int32 × (Nat → Int32)) := f_X9_tell_b91 k_b23 k_b33 k_b49 all refused l1 l2 l3 l4 l5 l7 l8 l9 (0 : Int32) t0
set_option maxHeartbeats 4000000 in
set_option maxRecDepth 100000 in
theorem w_X9_tell_b90 {p : Program} {l : Launch} {e : Env} {s : State} {m : MethodId} {args : Array Value} {below : List Frame} {meth : Method} {c : Code} {A : Nat → Prop} {Q : State → Prop} {D : va_G} {cI cB cZ : ClassId} {a_this a_all a_kept a_isKept a_refused a_hand a_outs a_order0 a_bestOrder a_tells a_bytes a_anew a_values : Nat} {all : (Nat → Int32)} {above : Int64} {below_ : Int64} {bytesLong : Int32} {tokenAt : Int32} {tokenLong : Int32} {token : Int32} {value : Int32} (C0 : Cx p s m args c cX9_tell 10 RX9 wsX9_tell D (s_tys cI cB cZ) A) {rv : Int32 × (Nat → Int32)} (hend : ∀ (pc : Nat) (H : Heap) (locs : List Loc) (ls : Array Slot), decode cX9_tell pc = .ok (.ireturn, 1) → sS D vwCl A s.heap (wd_X9_tell cI cB cZ a_this a_all a_kept a_isKept a_refused a_hand a_outs a_order0 a_bestOrder a_tells a_bytes a_anew a_values all rv.2 above below_ bytesLong tokenAt tokenLong token value) H locs → W p l e rm_X9_tell s m args below meth c H locs 0 0 Q (F0 m pc ls [.int rv.1])) (k_b23 : (Nat → Int32) → Int32 → Int32 → Int32 → Int32 → Option (Int32 × (Nat → Int32))) (hk_b23 : ∀ (refused : (Nat → Int32)) (l1 : Int32) (l2 : Int32) (l3 : Int32) (l4 : Int32) (H : Heap) (locs : List Loc) (ls : Array Slot), k_b23 refused l1 l2 l3 l4 = some rv → sS D vwCl A s.heap (wd_X9_tell cI cB cZ a_this a_all a_kept a_isKept a_refused a_hand a_outs a_order0 a_bestOrder a_tells a_bytes a_anew a_values all refused above below_ bytesLong tokenAt tokenLong token value) H locs → lv_has ls 10 [(0, .ref a_this), (1, .int l1), (2, .int l2), (3, .int l3), (4, .int l4)] → W p l e rm_X9_tell s m args below meth c H locs 0 0 Q (F0 m 23 ls [])) (k_b33 : (Nat → Int32) → Int32 → Int32 → Int32 → Int32 → Int32 → Option (Int32 × (Nat → Int32))) (hk_b33 : ∀ (refused : (Nat → Int32)) (l1 : Int32) (l2 : Int32) (l3 : Int32) (l4 : Int32) (l5 : Int32) (H : Heap) (locs : List Loc) (ls : Array Slot), k_b33 refused l1 l2 l3 l4 l5 = some rv → sS D vwCl A s.heap (wd_X9_tell cI cB cZ a_this a_all a_kept a_isKept a_refused a_hand a_outs a_order0 a_bestOrder a_tells a_bytes a_anew a_values all refused above below_ bytesLong tokenAt tokenLong token value) H locs → lv_has ls 10 [(0, .ref a_this), (1, .int l1), (2, .int l2), (3, .int l3), (4, .int l4), (5, .int l5)] → W p l e rm_X9_tell s m args below meth c H locs 0 0 Q (F0 m 33 ls [])) (k_b49 : (Nat → Int32) → Int32 → Int32 → Int32 → Int32 → Int32 → Int32 → Int32 → Int32 → Option (Int32 × (Nat → Int32))) (hk_b49 : ∀ (refused : (Nat → Int32)) (l1 : Int32) (l2 : Int32) (l3 : Int32) (l4 : Int32) (l5 : Int32) (l6 : Int32) (l7 : Int32) (l8 : Int32) (H : Heap) (locs : List Loc) (ls : Array Slot), k_b49 refused l1 l2 l3 l4 l5 l6 l7 l8 = some rv → sS D vwCl A s.heap (wd_X9_tell cI cB cZ a_this a_all a_kept a_isKept a_refused a_hand a_outs a_order0 a_bestOrder a_tells a_bytes a_anew a_values all refused above below_ bytesLong tokenAt tokenLong token value) H locs → lv_has ls 10 [(0, .ref a_this), (1, .int l1), (2, .int l2), (3, .int l3), (4, .int l4), (5, .int l5), (6, .int l6), (7, .int l7), (8, .int l8)] → W p l e rm_X9_tell s m args below meth c H locs 0 0 Q (F0 m 49 ls [])) : ∀ (refused : (Nat → Int32)) (l1 : Int32) (l2 : Int32) (l3 : Int32) (l4 : Int32) (l5 : Int32) (l7 : Int32) (l8 : Int32) (l9 : Int32) (t0 : Int32) (H : Heap) (locs : List Loc) (ls : Array Slot), f_X9_tell_b90 k_b23 k_b33 k_b49 all refused l1 l2 l3 l4 l5 l7 l8 l9 t0 = some rv → sS D vwCl A s.heap (wd_X9_tell cI cB cZ a_this a_all a_kept a_isKept a_refused a_hand a_outs a_order0 a_bestOrder a_tells a_bytes a_anew a_values all refused above below_ bytesLong tokenAt tokenLong token value) H locs → lv_has ls 10 [(0, .ref a_this), (1, .int l1), (2, .int l2), (3, .int l3), (4, .int l4), (5, .int l5), (7, .int l7), (8, .int l8), (9, .int l9)] → W p l e rm_X9_tell s m args below meth c H locs 0 0 Q (F0 m 90 ls [.int t0]) := by
  obtain ⟨hx, hb, hml, hown, hts, hK, hA⟩ := id C0
  intro refused l1 l2 l3 l4 l5 l7 l8 l9 t0 H locs ls h hS hl
  unfold f_X9_tell_b90 at h
  refine lv_iconst (v := (0 : Int32)) hx hb dX9_tell_90 (by decide) ?_
  exact w_X9_tell_b91 C0 hend k_b23 hk_b23 k_b33 hk_b33 k_b49 hk_b49 refused l1 l2 l3 l4 l5 l7 l8 l9 (0 : Int32) t0 _ _ _ h hS (lv_sub hl [0, 1, 2, 3, 4, 5, 6, 7, 8] rfl)
def f_X9_tell_b49 (k_b23 : (Nat → Int32) → Int32 → Int32 → Int32 → Int32 → Option (Int32 × (Nat → Int32))) (k_b33 : (Nat → Int32) → Int32 → Int32 → Int32 → Int32 → Int32 → Option (Int32 × (Nat → Int32)))  (all : (Nat → Int32)) : Nat → (Nat → Int32) → Int32 → Int32 → Int32 → Int32 → Int32 → Int32 → Int32 → Int32 → Option (Int32 × (Nat → Int32))
  | 0, _, _, _, _, _, _, _, _, _ => none
  | fu + 1, refused, l1, l2, l3, l4, l5, l6, l7, l8 => (if (30 : Int32) < l8 then (if l6 ≤ l7 then f_X9_tell_b139 k_b23 k_b33 all refused l1 l2 l3 l4 l5 l7 else f_X9_tell_b139 k_b23 k_b33 all refused l1 l2 l3 l4 l5 l6) else ((f_X9_isInBy all l1 l5 l8 l4).bind fun q10 => ((f_X9_isOften all l1 l8).bind fun q11 => (if q11 = 0 then f_X9_tell_b90 k_b23 k_b33 (f_X9_tell_b49 k_b23 k_b33 all fu) all refused l1 l2 l3 l4 l5 l7 l8 q10 l6 else (if q10 = 0 then f_X9_tell_b90 k_b23 k_b33 (f_X9_tell_b49 k_b23 k_b33 all fu) all refused l1 l2 l3 l4 l5 l7 l8 q10 l6 else f_X9_tell_b91 k_b23 k_b33 (f_X9_tell_b49 k_b23 k_b33 all fu) all refused l1 l2 l3 l4 l5 l7 l8 q10 (1 : Int32) l6)))))
set_option maxHeartbeats 4000000 in
set_option maxRecDepth 100000 in
theorem w_X9_tell_b49 {p : Program} {l : Launch} {e : Env} {s : State} {m : MethodId} {args : Array Value} {below : List Frame} {meth : Method} {c : Code} {A : Nat → Prop} {Q : State → Prop} {D : va_G} {cI cB cZ : ClassId} {a_this a_all a_kept a_isKept a_refused a_hand a_outs a_order0 a_bestOrder a_tells a_bytes a_anew a_values : Nat} {all : (Nat → Int32)} {above : Int64} {below_ : Int64} {bytesLong : Int32} {tokenAt : Int32} {tokenLong : Int32} {token : Int32} {value : Int32} (C0 : Cx p s m args c cX9_tell 10 RX9 wsX9_tell D (s_tys cI cB cZ) A) {rv : Int32 × (Nat → Int32)} (hend : ∀ (pc : Nat) (H : Heap) (locs : List Loc) (ls : Array Slot), decode cX9_tell pc = .ok (.ireturn, 1) → sS D vwCl A s.heap (wd_X9_tell cI cB cZ a_this a_all a_kept a_isKept a_refused a_hand a_outs a_order0 a_bestOrder a_tells a_bytes a_anew a_values all rv.2 above below_ bytesLong tokenAt tokenLong token value) H locs → W p l e rm_X9_tell s m args below meth c H locs 0 0 Q (F0 m pc ls [.int rv.1])) (k_b23 : (Nat → Int32) → Int32 → Int32 → Int32 → Int32 → Option (Int32 × (Nat → Int32))) (hk_b23 : ∀ (refused : (Nat → Int32)) (l1 : Int32) (l2 : Int32) (l3 : Int32) (l4 : Int32) (H : Heap) (locs : List Loc) (ls : Array Slot), k_b23 refused l1 l2 l3 l4 = some rv → sS D vwCl A s.heap (wd_X9_tell cI cB cZ a_this a_all a_kept a_isKept a_refused a_hand a_outs a_order0 a_bestOrder a_tells a_bytes a_anew a_values all refused above below_ bytesLong tokenAt tokenLong token value) H locs → lv_has ls 10 [(0, .ref a_this), (1, .int l1), (2, .int l2), (3, .int l3), (4, .int l4)] → W p l e rm_X9_tell s m args below meth c H locs 0 0 Q (F0 m 23 ls [])) (k_b33 : (Nat → Int32) → Int32 → Int32 → Int32 → Int32 → Int32 → Option (Int32 × (Nat → Int32))) (hk_b33 : ∀ (refused : (Nat → Int32)) (l1 : Int32) (l2 : Int32) (l3 : Int32) (l4 : Int32) (l5 : Int32) (H : Heap) (locs : List Loc) (ls : Array Slot), k_b33 refused l1 l2 l3 l4 l5 = some rv → sS D vwCl A s.heap (wd_X9_tell cI cB cZ a_this a_all a_kept a_isKept a_refused a_hand a_outs a_order0 a_bestOrder a_tells a_bytes a_anew a_values all refused above below_ bytesLong tokenAt tokenLong token value) H locs → lv_has ls 10 [(0, .ref a_this), (1, .int l1), (2, .int l2), (3, .int l3), (4, .int l4), (5, .int l5)] → W p l e rm_X9_tell s m args below meth c H locs 0 0 Q (F0 m 33 ls [])) : ∀ (fu : Nat) (refused : (Nat → Int32)) (l1 : Int32) (l2 : Int32) (l3 : Int32) (l4 : Int32) (l5 : Int32) (l6 : Int32) (l7 : Int32) (l8 : Int32) (H : Heap) (locs : List Loc) (ls : Array Slot), f_X9_tell_b49 k_b23 k_b33 all fu refused l1 l2 l3 l4 l5 l6 l7 l8 = some rv → sS D vwCl A s.heap (wd_X9_tell cI cB cZ a_this a_all a_kept a_isKept a_refused a_hand a_outs a_order0 a_bestOrder a_tells a_bytes a_anew a_values all refused above below_ bytesLong tokenAt tokenLong token value) H locs → lv_has ls 10 [(0, .ref a_this), (1, .int l1), (2, .int l2), (3, .int l3), (4, .int l4), (5, .int l5), (6, .int l6), (7, .int l7), (8, .int l8)] → W p l e rm_X9_tell s m args below meth c H locs 0 0 Q (F0 m 49 ls []) := by
  obtain ⟨hx, hb, hml, hown, hts, hK, hA⟩ := id C0
  intro fu
  induction fu with
  | zero => intro refused l1 l2 l3 l4 l5 l6 l7 l8 H locs ls h; cases h
  | succ fu ih =>
    intro refused l1 l2 l3 l4 l5 l6 l7 l8 H locs ls h hS hl
    rw [f_X9_tell_b49] at h
    refine lv_iload hx hb dX9_tell_49 (lv_at hl 8 rfl) ?_
    refine lv_bipush (v := (30 : Int32)) hx hb dX9_tell_51 (by decide) ?_
    refine lv_icmp_gt (tgt := 125) hx hb dX9_tell_53 (by decide) (fun c8 => ?_) (fun c8 => ?_)
    · replace h := s_yes c8 h
      refine lv_iload hx hb dX9_tell_125 (lv_at hl 6 rfl) ?_
      refine lv_iload hx hb dX9_tell_127 (lv_at hl 7 rfl) ?_
      refine lv_icmp_le (tgt := 137) hx hb dX9_tell_129 (by decide) (fun c9 => ?_) (fun c9 => ?_)
      · replace h := s_yes c9 h
        refine lv_iload hx hb dX9_tell_137 (lv_at hl 7 rfl) ?_
        exact w_X9_tell_b139 C0 hend k_b23 hk_b23 k_b33 hk_b33 refused l1 l2 l3 l4 l5 l7 _ _ _ h hS (lv_sub hl [0, 1, 2, 3, 4, 5] rfl)
      replace h := s_no c9 h
      refine lv_iload hx hb dX9_tell_132 (lv_at hl 6 rfl) ?_
      refine lv_goto (tgt := 139) hx hb dX9_tell_134 (by decide) ?_
      exact w_X9_tell_b139 C0 hend k_b23 hk_b23 k_b33 hk_b33 refused l1 l2 l3 l4 l5 l6 _ _ _ h hS (lv_sub hl [0, 1, 2, 3, 4, 5] rfl)
    replace h := s_no c8 h
    refine lv_aload_n hx hb dX9_tell_56 rfl (lv_at hl 0 rfl) ?_
    refine lv_iload_n hx hb dX9_tell_57 rfl (lv_at hl 1 rfl) ?_
    refine lv_iload hx hb dX9_tell_58 (lv_at hl 5 rfl) ?_
    refine lv_iload hx hb dX9_tell_60 (lv_at hl 8 rfl) ?_
    refine lv_iload hx hb dX9_tell_62 (lv_at hl 4 rfl) ?_
    obtain ⟨q10, hq10, h⟩ := s_bind h
    refine u_calliV (r := q10) (As := [.int l1, .int l5, .int l8, .int l4]) (rest := []) (wc := (wd_X9_isInBy cI cB cZ a_this a_all a_kept a_isKept a_refused a_hand a_outs a_order0 a_bestOrder a_tells a_bytes a_anew a_values all above below_ bytesLong tokenAt tokenLong token value)) hx hb hml hown hts hK hA hl hS (c_X9_isInBy l D cI cB cZ a_this a_all a_kept a_isKept a_refused a_hand a_outs a_order0 a_bestOrder a_tells a_bytes a_anew a_values all above below_ bytesLong tokenAt tokenLong token value l1 l5 l8 l4 _ _ hq10) (cwV 4 hts gX9_tell_X9_isInBy rfl rfl rfl (by decide +kernel) ⟨Nat.le_of_ble_eq_true rfl, Nat.le_of_ble_eq_true rfl⟩) 0 rfl rfl [0, 1] rfl rfl rfl rfl (Nat.le_of_ble_eq_true rfl) dX9_tell_64 (fun H locs hS => ?_)
    refine lv_istore (lv' := [(9, .int q10), (0, .ref a_this), (1, .int l1), (2, .int l2), (3, .int l3), (4, .int l4), (5, .int l5), (6, .int l6), (7, .int l7), (8, .int l8)]) hx hb dX9_tell_67 hl (by decide) rfl (fun ls hl => ?_)
    refine lv_iload hx hb dX9_tell_69 (lv_at hl 7 rfl) ?_
    refine lv_aload_n hx hb dX9_tell_71 rfl (lv_at hl 1 rfl) ?_
    refine lv_iload_n hx hb dX9_tell_72 rfl (lv_at hl 2 rfl) ?_
    refine lv_iload hx hb dX9_tell_73 (lv_at hl 9 rfl) ?_
    obtain ⟨q11, hq11, h⟩ := s_bind h
    refine u_calliV (r := q11) (As := [.int l1, .int l8]) (rest := [.int l6]) (wc := (wd_X9_isOften cI cB cZ a_this a_all a_kept a_isKept a_refused a_hand a_outs a_order0 a_bestOrder a_tells a_bytes a_anew a_values all above below_ bytesLong tokenAt tokenLong token value)) hx hb hml hown hts hK hA hl hS (c_X9_isOften l D cI cB cZ a_this a_all a_kept a_isKept a_refused a_hand a_outs a_order0 a_bestOrder a_tells a_bytes a_anew a_values all above below_ bytesLong tokenAt tokenLong token value l1 l8 _ _ hq11) (cwV 2 hts gX9_tell_X9_isOften rfl rfl rfl (by decide +kernel) ⟨Nat.le_of_ble_eq_true rfl, Nat.le_of_ble_eq_true rfl⟩) 0 rfl rfl [0, 1] rfl rfl rfl rfl (Nat.le_of_ble_eq_true rfl) dX9_tell_75 (fun H locs hS => ?_)
    refine lv_if_eq (tgt := 90) hx hb dX9_tell_78 (by decide) (fun c12 => ?_) (fun c12 => ?_)
    · replace h := s_yes c12 h
      exact w_X9_tell_b90 C0 hend k_b23 hk_b23 k_b33 hk_b33 (f_X9_tell_b49 k_b23 k_b33 all fu) ih refused l1 l2 l3 l4 l5 l7 l8 q10 l6 _ _ _ h hS (lv_sub hl [1, 2, 3, 4, 5, 6, 8, 9, 0] rfl)
    replace h := s_no c12 h
    refine lv_iload hx hb dX9_tell_81 (lv_at hl 0 rfl) ?_
    refine lv_if_eq (tgt := 90) hx hb dX9_tell_83 (by decide) (fun c13 => ?_) (fun c13 => ?_)
    · replace h := s_yes c13 h
      exact w_X9_tell_b90 C0 hend k_b23 hk_b23 k_b33 hk_b33 (f_X9_tell_b49 k_b23 k_b33 all fu) ih refused l1 l2 l3 l4 l5 l7 l8 q10 l6 _ _ _ h hS (lv_sub hl [1, 2, 3, 4, 5, 6, 8, 9, 0] rfl)
    replace h := s_no c13 h
    refine lv_iconst (v := (1 : Int32)) hx hb dX9_tell_86 (by decide) ?_
    refine lv_goto (tgt := 91) hx hb dX9_tell_87 (by decide) ?_
    exact w_X9_tell_b91 C0 hend k_b23 hk_b23 k_b33 hk_b33 (f_X9_tell_b49 k_b23 k_b33 all fu) ih refused l1 l2 l3 l4 l5 l7 l8 q10 (1 : Int32) l6 _ _ _ h hS (lv_sub hl [1, 2, 3, 4, 5, 6, 8, 9, 0] rfl)
def f_X9_tell_b33 (k_b23 : (Nat → Int32) → Int32 → Int32 → Int32 → Int32 → Option (Int32 × (Nat → Int32)))  (all : (Nat → Int32)) : Nat → (Nat → Int32) → Int32 → Int32 → Int32 → Int32 → Int32 → Option (Int32 × (Nat → Int32))
  | 0, _, _, _, _, _, _ => none
  | fu + 1, refused, l1, l2, l3, l4, l5 => (if (10 : Int32) ≤ l5 then k_b23 refused l1 l2 l3 (l4 + (1 : Int32)) else f_X9_tell_b49 k_b23 (f_X9_tell_b33 k_b23 all fu) all s_fuel refused l1 l2 l3 l4 l5 (0 : Int32) (0 : Int32) (0 : Int32))
set_option maxHeartbeats 4000000 in
set_option maxRecDepth 100000 in
theorem w_X9_tell_b33 {p : Program} {l : Launch} {e : Env} {s : State} {m : MethodId} {args : Array Value} {below : List Frame} {meth : Method} {c : Code} {A : Nat → Prop} {Q : State → Prop} {D : va_G} {cI cB cZ : ClassId} {a_this a_all a_kept a_isKept a_refused a_hand a_outs a_order0 a_bestOrder a_tells a_bytes a_anew a_values : Nat} {all : (Nat → Int32)} {above : Int64} {below_ : Int64} {bytesLong : Int32} {tokenAt : Int32} {tokenLong : Int32} {token : Int32} {value : Int32} (C0 : Cx p s m args c cX9_tell 10 RX9 wsX9_tell D (s_tys cI cB cZ) A) {rv : Int32 × (Nat → Int32)} (hend : ∀ (pc : Nat) (H : Heap) (locs : List Loc) (ls : Array Slot), decode cX9_tell pc = .ok (.ireturn, 1) → sS D vwCl A s.heap (wd_X9_tell cI cB cZ a_this a_all a_kept a_isKept a_refused a_hand a_outs a_order0 a_bestOrder a_tells a_bytes a_anew a_values all rv.2 above below_ bytesLong tokenAt tokenLong token value) H locs → W p l e rm_X9_tell s m args below meth c H locs 0 0 Q (F0 m pc ls [.int rv.1])) (k_b23 : (Nat → Int32) → Int32 → Int32 → Int32 → Int32 → Option (Int32 × (Nat → Int32))) (hk_b23 : ∀ (refused : (Nat → Int32)) (l1 : Int32) (l2 : Int32) (l3 : Int32) (l4 : Int32) (H : Heap) (locs : List Loc) (ls : Array Slot), k_b23 refused l1 l2 l3 l4 = some rv → sS D vwCl A s.heap (wd_X9_tell cI cB cZ a_this a_all a_kept a_isKept a_refused a_hand a_outs a_order0 a_bestOrder a_tells a_bytes a_anew a_values all refused above below_ bytesLong tokenAt tokenLong token value) H locs → lv_has ls 10 [(0, .ref a_this), (1, .int l1), (2, .int l2), (3, .int l3), (4, .int l4)] → W p l e rm_X9_tell s m args below meth c H locs 0 0 Q (F0 m 23 ls [])) : ∀ (fu : Nat) (refused : (Nat → Int32)) (l1 : Int32) (l2 : Int32) (l3 : Int32) (l4 : Int32) (l5 : Int32) (H : Heap) (locs : List Loc) (ls : Array Slot), f_X9_tell_b33 k_b23 all fu refused l1 l2 l3 l4 l5 = some rv → sS D vwCl A s.heap (wd_X9_tell cI cB cZ a_this a_all a_kept a_isKept a_refused a_hand a_outs a_order0 a_bestOrder a_tells a_bytes a_anew a_values all refused above below_ bytesLong tokenAt tokenLong token value) H locs → lv_has ls 10 [(0, .ref a_this), (1, .int l1), (2, .int l2), (3, .int l3), (4, .int l4), (5, .int l5)] → W p l e rm_X9_tell s m args below meth c H locs 0 0 Q (F0 m 33 ls []) := by
  obtain ⟨hx, hb, hml, hown, hts, hK, hA⟩ := id C0
  intro fu
  induction fu with
  | zero => intro refused l1 l2 l3 l4 l5 H locs ls h; cases h
  | succ fu ih =>
    intro refused l1 l2 l3 l4 l5 H locs ls h hS hl
    rw [f_X9_tell_b33] at h
    refine lv_iload hx hb dX9_tell_33 (lv_at hl 5 rfl) ?_
    refine lv_bipush (v := (10 : Int32)) hx hb dX9_tell_35 (by decide) ?_
    refine lv_icmp_ge (tgt := 189) hx hb dX9_tell_37 (by decide) (fun c14 => ?_) (fun c14 => ?_)
    · replace h := s_yes c14 h
      refine lv_iinc (v := (l4 + (1 : Int32))) (lv' := [(4, .int (l4 + (1 : Int32))), (0, .ref a_this), (1, .int l1), (2, .int l2), (3, .int l3), (5, .int l5)]) hx hb dX9_tell_189 hl (k := 4) rfl rfl (by decide) rfl (fun ls hl => ?_)
      refine lv_goto (tgt := 23) hx hb dX9_tell_192 (by decide) ?_
      exact hk_b23 refused l1 l2 l3 (l4 + (1 : Int32)) _ _ _ h hS (lv_sub hl [1, 2, 3, 4, 0] rfl)
    replace h := s_no c14 h
    refine lv_iconst (v := (0 : Int32)) hx hb dX9_tell_40 (by decide) ?_
    refine lv_istore (lv' := [(6, .int (0 : Int32)), (0, .ref a_this), (1, .int l1), (2, .int l2), (3, .int l3), (4, .int l4), (5, .int l5)]) hx hb dX9_tell_41 hl (by decide) rfl (fun ls hl => ?_)
    refine lv_iconst (v := (0 : Int32)) hx hb dX9_tell_43 (by decide) ?_
    refine lv_istore (lv' := [(7, .int (0 : Int32)), (6, .int (0 : Int32)), (0, .ref a_this), (1, .int l1), (2, .int l2), (3, .int l3), (4, .int l4), (5, .int l5)]) hx hb dX9_tell_44 hl (by decide) rfl (fun ls hl => ?_)
    refine lv_iconst (v := (0 : Int32)) hx hb dX9_tell_46 (by decide) ?_
    refine lv_istore (lv' := [(8, .int (0 : Int32)), (7, .int (0 : Int32)), (6, .int (0 : Int32)), (0, .ref a_this), (1, .int l1), (2, .int l2), (3, .int l3), (4, .int l4), (5, .int l5)]) hx hb dX9_tell_47 hl (by decide) rfl (fun ls hl => ?_)
    exact w_X9_tell_b49 C0 hend k_b23 hk_b23 (f_X9_tell_b33 k_b23 all fu) ih s_fuel refused l1 l2 l3 l4 l5 (0 : Int32) (0 : Int32) (0 : Int32) _ _ _ h hS (lv_sub hl [3, 4, 5, 6, 7, 8, 2, 1, 0] rfl)
def f_X9_tell_b23  (all : (Nat → Int32)) : Nat → (Nat → Int32) → Int32 → Int32 → Int32 → Int32 → Option (Int32 × (Nat → Int32))
  | 0, _, _, _, _, _ => none
  | fu + 1, refused, l1, l2, l3, l4 => (if (14 : Int32) ≤ l4 then some (l2, refused) else f_X9_tell_b33 (f_X9_tell_b23 all fu) all s_fuel refused l1 l2 l3 l4 (0 : Int32))
set_option maxHeartbeats 4000000 in
set_option maxRecDepth 100000 in
theorem w_X9_tell_b23 {p : Program} {l : Launch} {e : Env} {s : State} {m : MethodId} {args : Array Value} {below : List Frame} {meth : Method} {c : Code} {A : Nat → Prop} {Q : State → Prop} {D : va_G} {cI cB cZ : ClassId} {a_this a_all a_kept a_isKept a_refused a_hand a_outs a_order0 a_bestOrder a_tells a_bytes a_anew a_values : Nat} {all : (Nat → Int32)} {above : Int64} {below_ : Int64} {bytesLong : Int32} {tokenAt : Int32} {tokenLong : Int32} {token : Int32} {value : Int32} (C0 : Cx p s m args c cX9_tell 10 RX9 wsX9_tell D (s_tys cI cB cZ) A) {rv : Int32 × (Nat → Int32)} (hend : ∀ (pc : Nat) (H : Heap) (locs : List Loc) (ls : Array Slot), decode cX9_tell pc = .ok (.ireturn, 1) → sS D vwCl A s.heap (wd_X9_tell cI cB cZ a_this a_all a_kept a_isKept a_refused a_hand a_outs a_order0 a_bestOrder a_tells a_bytes a_anew a_values all rv.2 above below_ bytesLong tokenAt tokenLong token value) H locs → W p l e rm_X9_tell s m args below meth c H locs 0 0 Q (F0 m pc ls [.int rv.1])) : ∀ (fu : Nat) (refused : (Nat → Int32)) (l1 : Int32) (l2 : Int32) (l3 : Int32) (l4 : Int32) (H : Heap) (locs : List Loc) (ls : Array Slot), f_X9_tell_b23 all fu refused l1 l2 l3 l4 = some rv → sS D vwCl A s.heap (wd_X9_tell cI cB cZ a_this a_all a_kept a_isKept a_refused a_hand a_outs a_order0 a_bestOrder a_tells a_bytes a_anew a_values all refused above below_ bytesLong tokenAt tokenLong token value) H locs → lv_has ls 10 [(0, .ref a_this), (1, .int l1), (2, .int l2), (3, .int l3), (4, .int l4)] → W p l e rm_X9_tell s m args below meth c H locs 0 0 Q (F0 m 23 ls []) := by
  obtain ⟨hx, hb, hml, hown, hts, hK, hA⟩ := id C0
  intro fu
  induction fu with
  | zero => intro refused l1 l2 l3 l4 H locs ls h; cases h
  | succ fu ih =>
    intro refused l1 l2 l3 l4 H locs ls h hS hl
    rw [f_X9_tell_b23] at h
    refine lv_iload hx hb dX9_tell_23 (lv_at hl 4 rfl) ?_
    refine lv_bipush (v := (14 : Int32)) hx hb dX9_tell_25 (by decide) ?_
    refine lv_icmp_ge (tgt := 195) hx hb dX9_tell_27 (by decide) (fun c15 => ?_) (fun c15 => ?_)
    · replace h := s_yes c15 h
      refine lv_iload_n hx hb dX9_tell_195 rfl (lv_at hl 2 rfl) ?_
      obtain rfl := Option.some.inj h
      exact hend _ _ _ _ dX9_tell_196 hS
    replace h := s_no c15 h
    refine lv_iconst (v := (0 : Int32)) hx hb dX9_tell_30 (by decide) ?_
    refine lv_istore (lv' := [(5, .int (0 : Int32)), (0, .ref a_this), (1, .int l1), (2, .int l2), (3, .int l3), (4, .int l4)]) hx hb dX9_tell_31 hl (by decide) rfl (fun ls hl => ?_)
    exact w_X9_tell_b33 C0 hend (f_X9_tell_b23 all fu) ih s_fuel refused l1 l2 l3 l4 (0 : Int32) _ _ _ h hS (lv_sub hl [1, 2, 3, 4, 5, 0] rfl)
def f_X9_tell  (all : (Nat → Int32)) (refused : (Nat → Int32)) (p1 : Int32) : Option (Int32 × (Nat → Int32)) := ((f_X9_isOne all p1).bind fun q16 => (if q16 = 0 then ((f_X9_bad refused (-2 : Int32)).bind fun q18 => some (q18.1, q18.2)) else f_X9_tell_b23  all s_fuel refused p1 (-1 : Int32) (1000000 : Int32) (0 : Int32)))
set_option maxHeartbeats 4000000 in
set_option maxRecDepth 100000 in
theorem c_X9_tell (l : Launch) (D : va_G) (cI cB cZ : ClassId) (a_this : Nat) (a_all : Nat) (a_kept : Nat) (a_isKept : Nat) (a_refused : Nat) (a_hand : Nat) (a_outs : Nat) (a_order0 : Nat) (a_bestOrder : Nat) (a_tells : Nat) (a_bytes : Nat) (a_anew : Nat) (a_values : Nat) (all : (Nat → Int32)) (refused : (Nat → Int32)) (above : Int64) (below_ : Int64) (bytesLong : Int32) (tokenAt : Int32) (tokenLong : Int32) (token : Int32) (value : Int32) (p1 : Int32) (rv : Int32 × (Nat → Int32)) (sz : Nat) (hf : f_X9_tell all refused p1 = some rv) : Met l yX9_tell wsX9_tell rm_X9_tell (sPc D vwCl (s_tys cI cB cZ) [.ref a_this, .int p1] (wd_X9_tell cI cB cZ a_this a_all a_kept a_isKept a_refused a_hand a_outs a_order0 a_bestOrder a_tells a_bytes a_anew a_values all refused above below_ bytesLong tokenAt tokenLong token value) sz) (sQi D vwCl (wd_X9_tell cI cB cZ a_this a_all a_kept a_isKept a_refused a_hand a_outs a_order0 a_bestOrder a_tells a_bytes a_anew a_values all refused above below_ bytesLong tokenAt tokenLong token value) (wd_X9_tell cI cB cZ a_this a_all a_kept a_isKept a_refused a_hand a_outs a_order0 a_bestOrder a_tells a_bytes a_anew a_values all rv.2 above below_ bytesLong tokenAt tokenLong token value) sz rv.1) 0 0 (va_A (wd_X9_tell cI cB cZ a_this a_all a_kept a_isKept a_refused a_hand a_outs a_order0 a_bestOrder a_tells a_bytes a_anew a_values all refused above below_ bytesLong tokenAt tokenLong token value) sz) := by
  refine s_enter_n (cc := cX9_tell) (nL := 10) (r := rv.1) (by decide) rfl (Nat.le_of_ble_eq_true rfl) ?_
  intro p e s m args below meth c A Q C0 hend ls hl hS
  have h := hf
  clear hf
  replace hl : lv_has ls 10 [(0, .ref a_this), (1, .int p1)] := hl
  unfold f_X9_tell at h
  obtain ⟨hx, hb, hml, hown, hts, hK, hA⟩ := id C0
  refine lv_aload_n hx hb dX9_tell_0 rfl (lv_at hl 0 rfl) ?_
  refine lv_iload_n hx hb dX9_tell_1 rfl (lv_at hl 1 rfl) ?_
  obtain ⟨q16, hq16, h⟩ := s_bind h
  refine u_calliV (r := q16) (As := [.int p1]) (rest := []) (wc := (wd_X9_isOne cI cB cZ a_this a_all a_kept a_isKept a_refused a_hand a_outs a_order0 a_bestOrder a_tells a_bytes a_anew a_values all above below_ bytesLong tokenAt tokenLong token value)) hx hb hml hown hts hK hA hl hS (c_X9_isOne l D cI cB cZ a_this a_all a_kept a_isKept a_refused a_hand a_outs a_order0 a_bestOrder a_tells a_bytes a_anew a_values all above below_ bytesLong tokenAt tokenLong token value p1 _ _ hq16) (cwV 1 hts gX9_tell_X9_isOne rfl rfl rfl (by decide +kernel) ⟨Nat.le_of_ble_eq_true rfl, Nat.le_of_ble_eq_true rfl⟩) 0 rfl rfl [0, 1] rfl rfl rfl rfl (Nat.le_of_ble_eq_true rfl) dX9_tell_2 (fun H locs hS => ?_)
  refine lv_if_ne (tgt := 15) hx hb dX9_tell_5 (by decide) (fun c17 => ?_) (fun c17 => ?_)
  · replace h := s_no c17 h
    refine lv_iconst (v := (-1 : Int32)) hx hb dX9_tell_15 (by decide) ?_
    refine lv_istore_n (lv' := [(2, .int (-1 : Int32)), (0, .ref a_this), (1, .int p1)]) hx hb dX9_tell_16 rfl hl (by decide) rfl (fun ls hl => ?_)
    refine lv_ldc (v := (1000000 : Int32)) hx hb hown (hts (.constant RX9 172 (1000000)) (List.mem_of_getElem? (i := 1) rfl)) dX9_tell_17 ?_
    refine lv_istore_n (lv' := [(3, .int (1000000 : Int32)), (2, .int (-1 : Int32)), (0, .ref a_this), (1, .int p1)]) hx hb dX9_tell_19 rfl hl (by decide) rfl (fun ls hl => ?_)
    refine lv_iconst (v := (0 : Int32)) hx hb dX9_tell_20 (by decide) ?_
    refine lv_istore (lv' := [(4, .int (0 : Int32)), (3, .int (1000000 : Int32)), (2, .int (-1 : Int32)), (0, .ref a_this), (1, .int p1)]) hx hb dX9_tell_21 hl (by decide) rfl (fun ls hl => ?_)
    exact w_X9_tell_b23 C0 hend  s_fuel refused p1 (-1 : Int32) (1000000 : Int32) (0 : Int32) _ _ _ h hS (lv_sub hl [3, 4, 2, 1, 0] rfl)
  replace h := s_yes c17 h
  refine lv_aload_n hx hb dX9_tell_8 rfl (lv_at hl 0 rfl) ?_
  refine lv_bipush (v := (-2 : Int32)) hx hb dX9_tell_9 (by decide) ?_
  obtain ⟨q18, hq18, h⟩ := s_bind h
  refine r_calliV (r := q18.1) (As := [.int (-2 : Int32)]) (rest := []) (wc := (wd_X9_bad cI cB cZ a_this a_all a_kept a_isKept a_refused a_hand a_outs a_order0 a_bestOrder a_tells a_bytes a_anew a_values refused above below_ bytesLong tokenAt tokenLong token value)) (w1 := (wd_X9_bad cI cB cZ a_this a_all a_kept a_isKept a_refused a_hand a_outs a_order0 a_bestOrder a_tells a_bytes a_anew a_values q18.2 above below_ bytesLong tokenAt tokenLong token value)) (ws' := (wd_X9_tell cI cB cZ a_this a_all a_kept a_isKept a_refused a_hand a_outs a_order0 a_bestOrder a_tells a_bytes a_anew a_values all q18.2 above below_ bytesLong tokenAt tokenLong token value)) hx hb hml hown hts hK hA hl hS (c_X9_bad l D cI cB cZ a_this a_all a_kept a_isKept a_refused a_hand a_outs a_order0 a_bestOrder a_tells a_bytes a_anew a_values refused above below_ bytesLong tokenAt tokenLong token value (-2 : Int32) _ _ hq18) (cwV 1 hts gX9_tell_X9_bad rfl rfl rfl (by decide +kernel) ⟨Nat.le_of_ble_eq_true rfl, Nat.le_of_ble_eq_true rfl⟩) 0 rfl rfl [0, 2] rfl rfl rfl [.inr 0, .inl 1, .inr 1] rfl rfl rfl rfl (Nat.le_of_ble_eq_true rfl) dX9_tell_11 (fun H locs hS => ?_)
  obtain rfl := Option.some.inj h
  exact hend _ _ _ _ dX9_tell_14 hS

-- InnTurnedModel.note(IIIII)I
def wd_X9_note (cI cB cZ : ClassId) (a_this : Nat) (a_all : Nat) (a_kept : Nat) (a_isKept : Nat) (a_refused : Nat) (a_hand : Nat) (a_outs : Nat) (a_order0 : Nat) (a_bestOrder : Nat) (a_tells : Nat) (a_bytes : Nat) (a_anew : Nat) (a_values : Nat)  (all : (Nat → Int32)) (refused : (Nat → Int32)) (above : Int64) (below_ : Int64) (bytesLong : Int32) (tokenAt : Int32) (tokenLong : Int32) (token : Int32) (value : Int32) : va_W := [(a_this, .inr (6, [.ref a_all, .ref a_kept, .ref a_isKept, .ref a_refused, .long above, .long below_, .ref a_hand, .ref a_outs, .ref a_order0, .ref a_bestOrder, .ref a_tells, .ref a_bytes, .int bytesLong, .int tokenAt, .int tokenLong, .int token, .int value, .ref a_anew, .ref a_values])), (a_all, .inl (cI, 250, .inl all)), (a_refused, .inl (cI, 3, .inl refused))]
abbrev rm_X9_note : Room := { frames := 2, cells := 0, slots := 0, locals := 46 }
set_option maxRecDepth 20000 in
theorem inX9_X9_note : ∀ w ∈ u_ws RX9 TX9 19, w ∈ wsX9_note := by decide +kernel
def f_X9_note_b53   (all : (Nat → Int32)) (refused : (Nat → Int32)) : Option (Int32 × (Nat → Int32) × (Nat → Int32)) := ((f_X9_bad refused (-2 : Int32)).bind fun q1 => some (q1.1, all, q1.2))
set_option maxHeartbeats 4000000 in
set_option maxRecDepth 100000 in
theorem w_X9_note_b53 {p : Program} {l : Launch} {e : Env} {s : State} {m : MethodId} {args : Array Value} {below : List Frame} {meth : Method} {c : Code} {A : Nat → Prop} {Q : State → Prop} {D : va_G} {cI cB cZ : ClassId} {a_this a_all a_kept a_isKept a_refused a_hand a_outs a_order0 a_bestOrder a_tells a_bytes a_anew a_values : Nat} {above : Int64} {below_ : Int64} {bytesLong : Int32} {tokenAt : Int32} {tokenLong : Int32} {token : Int32} {value : Int32} (C0 : Cx p s m args c cX9_note 7 RX9 wsX9_note D (s_tys cI cB cZ) A) {rv : Int32 × (Nat → Int32) × (Nat → Int32)} (hend : ∀ (pc : Nat) (H : Heap) (locs : List Loc) (ls : Array Slot), decode cX9_note pc = .ok (.ireturn, 1) → sS D vwCl A s.heap (wd_X9_note cI cB cZ a_this a_all a_kept a_isKept a_refused a_hand a_outs a_order0 a_bestOrder a_tells a_bytes a_anew a_values rv.2.1 rv.2.2 above below_ bytesLong tokenAt tokenLong token value) H locs → W p l e rm_X9_note s m args below meth c H locs 0 0 Q (F0 m pc ls [.int rv.1])) : ∀ (all : (Nat → Int32)) (refused : (Nat → Int32)) (H : Heap) (locs : List Loc) (ls : Array Slot), f_X9_note_b53  all refused = some rv → sS D vwCl A s.heap (wd_X9_note cI cB cZ a_this a_all a_kept a_isKept a_refused a_hand a_outs a_order0 a_bestOrder a_tells a_bytes a_anew a_values all refused above below_ bytesLong tokenAt tokenLong token value) H locs → lv_has ls 7 [(0, .ref a_this)] → W p l e rm_X9_note s m args below meth c H locs 0 0 Q (F0 m 53 ls []) := by
  obtain ⟨hx, hb, hml, hown, hts, hK, hA⟩ := id C0
  have inX9 : ∀ w ∈ u_ws RX9 TX9 19, w ∈ wsX9_note := inX9_X9_note
  intro all refused H locs ls h hS hl
  unfold f_X9_note_b53 at h
  refine lv_aload_n hx hb dX9_note_53 rfl (lv_at hl 0 rfl) ?_
  refine lv_bipush (v := (-2 : Int32)) hx hb dX9_note_54 (by decide) ?_
  obtain ⟨q1, hq1, h⟩ := s_bind h
  refine r_calliV (r := q1.1) (As := [.int (-2 : Int32)]) (rest := []) (wc := (wd_X9_bad cI cB cZ a_this a_all a_kept a_isKept a_refused a_hand a_outs a_order0 a_bestOrder a_tells a_bytes a_anew a_values refused above below_ bytesLong tokenAt tokenLong token value)) (w1 := (wd_X9_bad cI cB cZ a_this a_all a_kept a_isKept a_refused a_hand a_outs a_order0 a_bestOrder a_tells a_bytes a_anew a_values q1.2 above below_ bytesLong tokenAt tokenLong token value)) (ws' := (wd_X9_note cI cB cZ a_this a_all a_kept a_isKept a_refused a_hand a_outs a_order0 a_bestOrder a_tells a_bytes a_anew a_values all q1.2 above below_ bytesLong tokenAt tokenLong token value)) hx hb hml hown hts hK hA hl hS (c_X9_bad l D cI cB cZ a_this a_all a_kept a_isKept a_refused a_hand a_outs a_order0 a_bestOrder a_tells a_bytes a_anew a_values refused above below_ bytesLong tokenAt tokenLong token value (-2 : Int32) _ _ hq1) (cwV 1 hts gX9_note_X9_bad rfl rfl rfl (by decide +kernel) ⟨Nat.le_of_ble_eq_true rfl, Nat.le_of_ble_eq_true rfl⟩) 0 rfl rfl [0, 2] rfl rfl rfl [.inr 0, .inl 1, .inr 1] rfl rfl rfl rfl (Nat.le_of_ble_eq_true rfl) dX9_note_56 (fun H locs hS => ?_)
  obtain rfl := Option.some.inj h
  exact hend _ _ _ _ dX9_note_59 hS
def f_X9_note   (all : (Nat → Int32)) (refused : (Nat → Int32)) (p1 : Int32) (p2 : Int32) (p3 : Int32) (p4 : Int32) (p5 : Int32) : Option (Int32 × (Nat → Int32) × (Nat → Int32)) := ((f_X9_isOne all p1).bind fun q2 => (if q2 = 0 then f_X9_note_b53   all refused else ((f_X9_isWord p2).bind fun q4 => (if q4 = 0 then f_X9_note_b53   all refused else ((f_X9_in (Int32.toInt64 p3) (0 : Int64) (9 : Int64)).bind fun q6 => (if q6 = 0 then f_X9_note_b53   all refused else ((f_X9_in (Int32.toInt64 p4) (0 : Int64) (99 : Int64)).bind fun q8 => (if q8 = 0 then f_X9_note_b53   all refused else ((f_X9_in (Int32.toInt64 p5) (0 : Int64) (60 : Int64)).bind fun q10 => (if q10 = 0 then f_X9_note_b53   all refused else (if (all (Int32.toNatClampNeg (2 : Int32))) = (6 : Int32) then ((f_X9_full refused).bind fun q18 => some (q18.1, all, q18.2)) else (if ¬ (((58 : Int32) + ((5 : Int32) * (all (Int32.toNatClampNeg (2 : Int32))))) < 0 ∨ 250 ≤ (Int32.toNatClampNeg ((58 : Int32) + ((5 : Int32) * (all (Int32.toNatClampNeg (2 : Int32))))))) then (if ¬ ((((58 : Int32) + ((5 : Int32) * (all (Int32.toNatClampNeg (2 : Int32))))) + (1 : Int32)) < 0 ∨ 250 ≤ (Int32.toNatClampNeg (((58 : Int32) + ((5 : Int32) * (all (Int32.toNatClampNeg (2 : Int32))))) + (1 : Int32)))) then (if ¬ ((((58 : Int32) + ((5 : Int32) * (all (Int32.toNatClampNeg (2 : Int32))))) + (2 : Int32)) < 0 ∨ 250 ≤ (Int32.toNatClampNeg (((58 : Int32) + ((5 : Int32) * (all (Int32.toNatClampNeg (2 : Int32))))) + (2 : Int32)))) then (if ¬ ((((58 : Int32) + ((5 : Int32) * (all (Int32.toNatClampNeg (2 : Int32))))) + (3 : Int32)) < 0 ∨ 250 ≤ (Int32.toNatClampNeg (((58 : Int32) + ((5 : Int32) * (all (Int32.toNatClampNeg (2 : Int32))))) + (3 : Int32)))) then (if ¬ ((((58 : Int32) + ((5 : Int32) * (all (Int32.toNatClampNeg (2 : Int32))))) + (4 : Int32)) < 0 ∨ 250 ≤ (Int32.toNatClampNeg (((58 : Int32) + ((5 : Int32) * (all (Int32.toNatClampNeg (2 : Int32))))) + (4 : Int32)))) then some (((upd (upd (upd (upd (upd (upd all (Int32.toNatClampNeg ((58 : Int32) + ((5 : Int32) * (all (Int32.toNatClampNeg (2 : Int32)))))) p1) (Int32.toNatClampNeg (((58 : Int32) + ((5 : Int32) * (all (Int32.toNatClampNeg (2 : Int32))))) + (1 : Int32))) p2) (Int32.toNatClampNeg (((58 : Int32) + ((5 : Int32) * (all (Int32.toNatClampNeg (2 : Int32))))) + (2 : Int32))) p3) (Int32.toNatClampNeg (((58 : Int32) + ((5 : Int32) * (all (Int32.toNatClampNeg (2 : Int32))))) + (3 : Int32))) p4) (Int32.toNatClampNeg (((58 : Int32) + ((5 : Int32) * (all (Int32.toNatClampNeg (2 : Int32))))) + (4 : Int32))) p5) (Int32.toNatClampNeg (2 : Int32)) (((upd (upd (upd (upd (upd all (Int32.toNatClampNeg ((58 : Int32) + ((5 : Int32) * (all (Int32.toNatClampNeg (2 : Int32)))))) p1) (Int32.toNatClampNeg (((58 : Int32) + ((5 : Int32) * (all (Int32.toNatClampNeg (2 : Int32))))) + (1 : Int32))) p2) (Int32.toNatClampNeg (((58 : Int32) + ((5 : Int32) * (all (Int32.toNatClampNeg (2 : Int32))))) + (2 : Int32))) p3) (Int32.toNatClampNeg (((58 : Int32) + ((5 : Int32) * (all (Int32.toNatClampNeg (2 : Int32))))) + (3 : Int32))) p4) (Int32.toNatClampNeg (((58 : Int32) + ((5 : Int32) * (all (Int32.toNatClampNeg (2 : Int32))))) + (4 : Int32))) p5) (Int32.toNatClampNeg (2 : Int32))) + (1 : Int32))) (Int32.toNatClampNeg (2 : Int32))), (upd (upd (upd (upd (upd (upd all (Int32.toNatClampNeg ((58 : Int32) + ((5 : Int32) * (all (Int32.toNatClampNeg (2 : Int32)))))) p1) (Int32.toNatClampNeg (((58 : Int32) + ((5 : Int32) * (all (Int32.toNatClampNeg (2 : Int32))))) + (1 : Int32))) p2) (Int32.toNatClampNeg (((58 : Int32) + ((5 : Int32) * (all (Int32.toNatClampNeg (2 : Int32))))) + (2 : Int32))) p3) (Int32.toNatClampNeg (((58 : Int32) + ((5 : Int32) * (all (Int32.toNatClampNeg (2 : Int32))))) + (3 : Int32))) p4) (Int32.toNatClampNeg (((58 : Int32) + ((5 : Int32) * (all (Int32.toNatClampNeg (2 : Int32))))) + (4 : Int32))) p5) (Int32.toNatClampNeg (2 : Int32)) (((upd (upd (upd (upd (upd all (Int32.toNatClampNeg ((58 : Int32) + ((5 : Int32) * (all (Int32.toNatClampNeg (2 : Int32)))))) p1) (Int32.toNatClampNeg (((58 : Int32) + ((5 : Int32) * (all (Int32.toNatClampNeg (2 : Int32))))) + (1 : Int32))) p2) (Int32.toNatClampNeg (((58 : Int32) + ((5 : Int32) * (all (Int32.toNatClampNeg (2 : Int32))))) + (2 : Int32))) p3) (Int32.toNatClampNeg (((58 : Int32) + ((5 : Int32) * (all (Int32.toNatClampNeg (2 : Int32))))) + (3 : Int32))) p4) (Int32.toNatClampNeg (((58 : Int32) + ((5 : Int32) * (all (Int32.toNatClampNeg (2 : Int32))))) + (4 : Int32))) p5) (Int32.toNatClampNeg (2 : Int32))) + (1 : Int32))), refused) else none) else none) else none) else none) else none))))))))))))
set_option maxHeartbeats 4000000 in
set_option maxRecDepth 100000 in
theorem c_X9_note (l : Launch) (D : va_G) (cI cB cZ : ClassId) (a_this : Nat) (a_all : Nat) (a_kept : Nat) (a_isKept : Nat) (a_refused : Nat) (a_hand : Nat) (a_outs : Nat) (a_order0 : Nat) (a_bestOrder : Nat) (a_tells : Nat) (a_bytes : Nat) (a_anew : Nat) (a_values : Nat) (all : (Nat → Int32)) (refused : (Nat → Int32)) (above : Int64) (below_ : Int64) (bytesLong : Int32) (tokenAt : Int32) (tokenLong : Int32) (token : Int32) (value : Int32) (p1 : Int32) (p2 : Int32) (p3 : Int32) (p4 : Int32) (p5 : Int32) (rv : Int32 × (Nat → Int32) × (Nat → Int32)) (sz : Nat) (hf : f_X9_note all refused p1 p2 p3 p4 p5 = some rv) : Met l yX9_note wsX9_note rm_X9_note (sPc D vwCl (s_tys cI cB cZ) [.ref a_this, .int p1, .int p2, .int p3, .int p4, .int p5] (wd_X9_note cI cB cZ a_this a_all a_kept a_isKept a_refused a_hand a_outs a_order0 a_bestOrder a_tells a_bytes a_anew a_values all refused above below_ bytesLong tokenAt tokenLong token value) sz) (sQi D vwCl (wd_X9_note cI cB cZ a_this a_all a_kept a_isKept a_refused a_hand a_outs a_order0 a_bestOrder a_tells a_bytes a_anew a_values all refused above below_ bytesLong tokenAt tokenLong token value) (wd_X9_note cI cB cZ a_this a_all a_kept a_isKept a_refused a_hand a_outs a_order0 a_bestOrder a_tells a_bytes a_anew a_values rv.2.1 rv.2.2 above below_ bytesLong tokenAt tokenLong token value) sz rv.1) 0 0 (va_A (wd_X9_note cI cB cZ a_this a_all a_kept a_isKept a_refused a_hand a_outs a_order0 a_bestOrder a_tells a_bytes a_anew a_values all refused above below_ bytesLong tokenAt tokenLong token value) sz) := by
  refine s_enter_n (cc := cX9_note) (nL := 7) (r := rv.1) (by decide) rfl (Nat.le_of_ble_eq_true rfl) ?_
  intro p e s m args below meth c A Q C0 hend ls hl hS
  have h := hf
  clear hf
  replace hl : lv_has ls 7 [(0, .ref a_this), (1, .int p1), (2, .int p2), (3, .int p3), (4, .int p4), (5, .int p5)] := hl
  unfold f_X9_note at h
  obtain ⟨hx, hb, hml, hown, hts, hK, hA⟩ := id C0
  have inX9 : ∀ w ∈ u_ws RX9 TX9 19, w ∈ wsX9_note := inX9_X9_note
  refine lv_aload_n hx hb dX9_note_0 rfl (lv_at hl 0 rfl) ?_
  refine lv_iload_n hx hb dX9_note_1 rfl (lv_at hl 1 rfl) ?_
  obtain ⟨q2, hq2, h⟩ := s_bind h
  refine u_calliV (r := q2) (As := [.int p1]) (rest := []) (wc := (wd_X9_isOne cI cB cZ a_this a_all a_kept a_isKept a_refused a_hand a_outs a_order0 a_bestOrder a_tells a_bytes a_anew a_values all above below_ bytesLong tokenAt tokenLong token value)) hx hb hml hown hts hK hA hl hS (c_X9_isOne l D cI cB cZ a_this a_all a_kept a_isKept a_refused a_hand a_outs a_order0 a_bestOrder a_tells a_bytes a_anew a_values all above below_ bytesLong tokenAt tokenLong token value p1 _ _ hq2) (cwV 1 hts gX9_note_X9_isOne rfl rfl rfl (by decide +kernel) ⟨Nat.le_of_ble_eq_true rfl, Nat.le_of_ble_eq_true rfl⟩) 0 rfl rfl [0, 1] rfl rfl rfl rfl (Nat.le_of_ble_eq_true rfl) dX9_note_2 (fun H locs hS => ?_)
  refine lv_if_eq (tgt := 53) hx hb dX9_note_5 (by decide) (fun c3 => ?_) (fun c3 => ?_)
  · replace h := s_yes c3 h
    exact w_X9_note_b53 C0 hend  all refused _ _ _ h hS (lv_sub hl [0] rfl)
  replace h := s_no c3 h
  refine lv_iload_n hx hb dX9_note_8 rfl (lv_at hl 2 rfl) ?_
  obtain ⟨q4, hq4, h⟩ := s_bind h
  refine u_calliS (r := q4) (As := [.int p2]) (rest := []) (wc := ([] : va_W)) hx hb hml hown hts hK hA hl hS (c_X9_isWord l D cI cB cZ p2 _ _ hq4) (va_cwS 1 hts gX9_note_X9_isWord rfl rfl rfl (by decide +kernel) ⟨Nat.le_of_ble_eq_true rfl, Nat.le_of_ble_eq_true rfl⟩) [] rfl rfl rfl rfl (Nat.le_of_ble_eq_true rfl) dX9_note_9 (fun H locs hS => ?_)
  refine lv_if_eq (tgt := 53) hx hb dX9_note_12 (by decide) (fun c5 => ?_) (fun c5 => ?_)
  · replace h := s_yes c5 h
    exact w_X9_note_b53 C0 hend  all refused _ _ _ h hS (lv_sub hl [0] rfl)
  replace h := s_no c5 h
  refine lv_iload_n hx hb dX9_note_15 rfl (lv_at hl 3 rfl) ?_
  refine lv_i2l (v := (Int32.toInt64 p3)) hx hb dX9_note_16 rfl ?_
  refine lv_lconst (v := (0 : Int64)) hx hb dX9_note_17 (by decide) ?_
  refine lv_ldc2 (v := (9 : Int64)) hx hb hown (hts (.constantLong RX9 65 (9)) (List.mem_of_getElem? (i := 1) rfl)) dX9_note_18 ?_
  obtain ⟨q6, hq6, h⟩ := s_bind h
  refine u_calliS (r := q6) (As := [.long (Int32.toInt64 p3), .long (0 : Int64), .long (9 : Int64)]) (rest := []) (wc := ([] : va_W)) hx hb hml hown hts hK hA hl hS (c_X9_in l D cI cB cZ (Int32.toInt64 p3) (0 : Int64) (9 : Int64) _ _ hq6) (va_cwS 3 hts gX9_note_X9_in rfl rfl rfl (by decide +kernel) ⟨Nat.le_of_ble_eq_true rfl, Nat.le_of_ble_eq_true rfl⟩) [] rfl rfl rfl rfl (Nat.le_of_ble_eq_true rfl) dX9_note_21 (fun H locs hS => ?_)
  refine lv_if_eq (tgt := 53) hx hb dX9_note_24 (by decide) (fun c7 => ?_) (fun c7 => ?_)
  · replace h := s_yes c7 h
    exact w_X9_note_b53 C0 hend  all refused _ _ _ h hS (lv_sub hl [0] rfl)
  replace h := s_no c7 h
  refine lv_iload hx hb dX9_note_27 (lv_at hl 4 rfl) ?_
  refine lv_i2l (v := (Int32.toInt64 p4)) hx hb dX9_note_29 rfl ?_
  refine lv_lconst (v := (0 : Int64)) hx hb dX9_note_30 (by decide) ?_
  refine lv_ldc2 (v := (99 : Int64)) hx hb hown (hts (.constantLong RX9 141 (99)) (List.mem_of_getElem? (i := 2) rfl)) dX9_note_31 ?_
  obtain ⟨q8, hq8, h⟩ := s_bind h
  refine u_calliS (r := q8) (As := [.long (Int32.toInt64 p4), .long (0 : Int64), .long (99 : Int64)]) (rest := []) (wc := ([] : va_W)) hx hb hml hown hts hK hA hl hS (c_X9_in l D cI cB cZ (Int32.toInt64 p4) (0 : Int64) (99 : Int64) _ _ hq8) (va_cwS 3 hts gX9_note_X9_in rfl rfl rfl (by decide +kernel) ⟨Nat.le_of_ble_eq_true rfl, Nat.le_of_ble_eq_true rfl⟩) [] rfl rfl rfl rfl (Nat.le_of_ble_eq_true rfl) dX9_note_34 (fun H locs hS => ?_)
  refine lv_if_eq (tgt := 53) hx hb dX9_note_37 (by decide) (fun c9 => ?_) (fun c9 => ?_)
  · replace h := s_yes c9 h
    exact w_X9_note_b53 C0 hend  all refused _ _ _ h hS (lv_sub hl [0] rfl)
  replace h := s_no c9 h
  refine lv_iload hx hb dX9_note_40 (lv_at hl 5 rfl) ?_
  refine lv_i2l (v := (Int32.toInt64 p5)) hx hb dX9_note_42 rfl ?_
  refine lv_lconst (v := (0 : Int64)) hx hb dX9_note_43 (by decide) ?_
  refine lv_ldc2 (v := (60 : Int64)) hx hb hown (hts (.constantLong RX9 173 (60)) (List.mem_of_getElem? (i := 3) rfl)) dX9_note_44 ?_
  obtain ⟨q10, hq10, h⟩ := s_bind h
  refine u_calliS (r := q10) (As := [.long (Int32.toInt64 p5), .long (0 : Int64), .long (60 : Int64)]) (rest := []) (wc := ([] : va_W)) hx hb hml hown hts hK hA hl hS (c_X9_in l D cI cB cZ (Int32.toInt64 p5) (0 : Int64) (60 : Int64) _ _ hq10) (va_cwS 3 hts gX9_note_X9_in rfl rfl rfl (by decide +kernel) ⟨Nat.le_of_ble_eq_true rfl, Nat.le_of_ble_eq_true rfl⟩) [] rfl rfl rfl rfl (Nat.le_of_ble_eq_true rfl) dX9_note_47 (fun H locs hS => ?_)
  refine lv_if_ne (tgt := 60) hx hb dX9_note_50 (by decide) (fun c11 => ?_) (fun c11 => ?_)
  · replace h := s_no c11 h
    refine lv_aload_n hx hb dX9_note_60 rfl (lv_at hl 0 rfl) ?_
    refine s_get (C := RX9) (T := TX9) (N := 19) hx hb hts inX9 hown hK hS 0 rfl rfl 0 (by decide) (hts (.fieldLink RX9 7 "InnTurnedModel" "all" "[I") (List.mem_of_getElem? (i := 4) rfl)) rfl rfl dX9_note_61 ?_
    refine lv_iconst (v := (2 : Int32)) hx hb dX9_note_64 (by decide) ?_
    refine s_iald hx hb hK hS 1 rfl rfl (by decide) dX9_note_65 ?_
    refine lv_bipush (v := (6 : Int32)) hx hb dX9_note_66 (by decide) ?_
    refine lv_icmp_ne (tgt := 76) hx hb dX9_note_68 (by decide) (fun c12 => ?_) (fun c12 => ?_)
    · replace h := s_no c12 h
      refine lv_bipush (v := (58 : Int32)) hx hb dX9_note_76 (by decide) ?_
      refine lv_iconst (v := (5 : Int32)) hx hb dX9_note_78 (by decide) ?_
      refine lv_aload_n hx hb dX9_note_79 rfl (lv_at hl 0 rfl) ?_
      refine s_get (C := RX9) (T := TX9) (N := 19) hx hb hts inX9 hown hK hS 0 rfl rfl 0 (by decide) (hts (.fieldLink RX9 7 "InnTurnedModel" "all" "[I") (List.mem_of_getElem? (i := 4) rfl)) rfl rfl dX9_note_80 ?_
      refine lv_iconst (v := (2 : Int32)) hx hb dX9_note_83 (by decide) ?_
      refine s_iald hx hb hK hS 1 rfl rfl (by decide) dX9_note_84 ?_
      refine lv_imul hx hb dX9_note_85 ?_
      refine lv_iadd hx hb dX9_note_86 ?_
      refine lv_istore (lv' := [(6, .int ((58 : Int32) + ((5 : Int32) * (all (Int32.toNatClampNeg (2 : Int32)))))), (0, .ref a_this), (1, .int p1), (2, .int p2), (3, .int p3), (4, .int p4), (5, .int p5)]) hx hb dX9_note_87 hl (by decide) rfl (fun ls hl => ?_)
      refine lv_aload_n hx hb dX9_note_89 rfl (lv_at hl 1 rfl) ?_
      refine s_get (C := RX9) (T := TX9) (N := 19) hx hb hts inX9 hown hK hS 0 rfl rfl 0 (by decide) (hts (.fieldLink RX9 7 "InnTurnedModel" "all" "[I") (List.mem_of_getElem? (i := 4) rfl)) rfl rfl dX9_note_90 ?_
      refine lv_iload hx hb dX9_note_93 (lv_at hl 0 rfl) ?_
      refine lv_iload_n hx hb dX9_note_95 rfl (lv_at hl 2 rfl) ?_
      obtain ⟨g13, h⟩ := s_guard h
      refine s_iast (ws' := (wd_X9_note cI cB cZ a_this a_all a_kept a_isKept a_refused a_hand a_outs a_order0 a_bestOrder a_tells a_bytes a_anew a_values (upd all (Int32.toNatClampNeg ((58 : Int32) + ((5 : Int32) * (all (Int32.toNatClampNeg (2 : Int32)))))) p1) refused above below_ bytesLong tokenAt tokenLong token value)) hx hb hK hS 1 rfl rfl g13 rfl dX9_note_96 (fun H locs hS => ?_)
      refine lv_aload_n hx hb dX9_note_97 rfl (lv_at hl 1 rfl) ?_
      refine s_get (C := RX9) (T := TX9) (N := 19) hx hb hts inX9 hown hK hS 0 rfl rfl 0 (by decide) (hts (.fieldLink RX9 7 "InnTurnedModel" "all" "[I") (List.mem_of_getElem? (i := 4) rfl)) rfl rfl dX9_note_98 ?_
      refine lv_iload hx hb dX9_note_101 (lv_at hl 0 rfl) ?_
      refine lv_iconst (v := (1 : Int32)) hx hb dX9_note_103 (by decide) ?_
      refine lv_iadd hx hb dX9_note_104 ?_
      refine lv_iload_n hx hb dX9_note_105 rfl (lv_at hl 3 rfl) ?_
      obtain ⟨g14, h⟩ := s_guard h
      refine s_iast (ws' := (wd_X9_note cI cB cZ a_this a_all a_kept a_isKept a_refused a_hand a_outs a_order0 a_bestOrder a_tells a_bytes a_anew a_values (upd (upd all (Int32.toNatClampNeg ((58 : Int32) + ((5 : Int32) * (all (Int32.toNatClampNeg (2 : Int32)))))) p1) (Int32.toNatClampNeg (((58 : Int32) + ((5 : Int32) * (all (Int32.toNatClampNeg (2 : Int32))))) + (1 : Int32))) p2) refused above below_ bytesLong tokenAt tokenLong token value)) hx hb hK hS 1 rfl rfl g14 rfl dX9_note_106 (fun H locs hS => ?_)
      refine lv_aload_n hx hb dX9_note_107 rfl (lv_at hl 1 rfl) ?_
      refine s_get (C := RX9) (T := TX9) (N := 19) hx hb hts inX9 hown hK hS 0 rfl rfl 0 (by decide) (hts (.fieldLink RX9 7 "InnTurnedModel" "all" "[I") (List.mem_of_getElem? (i := 4) rfl)) rfl rfl dX9_note_108 ?_
      refine lv_iload hx hb dX9_note_111 (lv_at hl 0 rfl) ?_
      refine lv_iconst (v := (2 : Int32)) hx hb dX9_note_113 (by decide) ?_
      refine lv_iadd hx hb dX9_note_114 ?_
      refine lv_iload_n hx hb dX9_note_115 rfl (lv_at hl 4 rfl) ?_
      obtain ⟨g15, h⟩ := s_guard h
      refine s_iast (ws' := (wd_X9_note cI cB cZ a_this a_all a_kept a_isKept a_refused a_hand a_outs a_order0 a_bestOrder a_tells a_bytes a_anew a_values (upd (upd (upd all (Int32.toNatClampNeg ((58 : Int32) + ((5 : Int32) * (all (Int32.toNatClampNeg (2 : Int32)))))) p1) (Int32.toNatClampNeg (((58 : Int32) + ((5 : Int32) * (all (Int32.toNatClampNeg (2 : Int32))))) + (1 : Int32))) p2) (Int32.toNatClampNeg (((58 : Int32) + ((5 : Int32) * (all (Int32.toNatClampNeg (2 : Int32))))) + (2 : Int32))) p3) refused above below_ bytesLong tokenAt tokenLong token value)) hx hb hK hS 1 rfl rfl g15 rfl dX9_note_116 (fun H locs hS => ?_)
      refine lv_aload_n hx hb dX9_note_117 rfl (lv_at hl 1 rfl) ?_
      refine s_get (C := RX9) (T := TX9) (N := 19) hx hb hts inX9 hown hK hS 0 rfl rfl 0 (by decide) (hts (.fieldLink RX9 7 "InnTurnedModel" "all" "[I") (List.mem_of_getElem? (i := 4) rfl)) rfl rfl dX9_note_118 ?_
      refine lv_iload hx hb dX9_note_121 (lv_at hl 0 rfl) ?_
      refine lv_iconst (v := (3 : Int32)) hx hb dX9_note_123 (by decide) ?_
      refine lv_iadd hx hb dX9_note_124 ?_
      refine lv_iload hx hb dX9_note_125 (lv_at hl 5 rfl) ?_
      obtain ⟨g16, h⟩ := s_guard h
      refine s_iast (ws' := (wd_X9_note cI cB cZ a_this a_all a_kept a_isKept a_refused a_hand a_outs a_order0 a_bestOrder a_tells a_bytes a_anew a_values (upd (upd (upd (upd all (Int32.toNatClampNeg ((58 : Int32) + ((5 : Int32) * (all (Int32.toNatClampNeg (2 : Int32)))))) p1) (Int32.toNatClampNeg (((58 : Int32) + ((5 : Int32) * (all (Int32.toNatClampNeg (2 : Int32))))) + (1 : Int32))) p2) (Int32.toNatClampNeg (((58 : Int32) + ((5 : Int32) * (all (Int32.toNatClampNeg (2 : Int32))))) + (2 : Int32))) p3) (Int32.toNatClampNeg (((58 : Int32) + ((5 : Int32) * (all (Int32.toNatClampNeg (2 : Int32))))) + (3 : Int32))) p4) refused above below_ bytesLong tokenAt tokenLong token value)) hx hb hK hS 1 rfl rfl g16 rfl dX9_note_127 (fun H locs hS => ?_)
      refine lv_aload_n hx hb dX9_note_128 rfl (lv_at hl 1 rfl) ?_
      refine s_get (C := RX9) (T := TX9) (N := 19) hx hb hts inX9 hown hK hS 0 rfl rfl 0 (by decide) (hts (.fieldLink RX9 7 "InnTurnedModel" "all" "[I") (List.mem_of_getElem? (i := 4) rfl)) rfl rfl dX9_note_129 ?_
      refine lv_iload hx hb dX9_note_132 (lv_at hl 0 rfl) ?_
      refine lv_iconst (v := (4 : Int32)) hx hb dX9_note_134 (by decide) ?_
      refine lv_iadd hx hb dX9_note_135 ?_
      refine lv_iload hx hb dX9_note_136 (lv_at hl 6 rfl) ?_
      obtain ⟨g17, h⟩ := s_guard h
      refine s_iast (ws' := (wd_X9_note cI cB cZ a_this a_all a_kept a_isKept a_refused a_hand a_outs a_order0 a_bestOrder a_tells a_bytes a_anew a_values (upd (upd (upd (upd (upd all (Int32.toNatClampNeg ((58 : Int32) + ((5 : Int32) * (all (Int32.toNatClampNeg (2 : Int32)))))) p1) (Int32.toNatClampNeg (((58 : Int32) + ((5 : Int32) * (all (Int32.toNatClampNeg (2 : Int32))))) + (1 : Int32))) p2) (Int32.toNatClampNeg (((58 : Int32) + ((5 : Int32) * (all (Int32.toNatClampNeg (2 : Int32))))) + (2 : Int32))) p3) (Int32.toNatClampNeg (((58 : Int32) + ((5 : Int32) * (all (Int32.toNatClampNeg (2 : Int32))))) + (3 : Int32))) p4) (Int32.toNatClampNeg (((58 : Int32) + ((5 : Int32) * (all (Int32.toNatClampNeg (2 : Int32))))) + (4 : Int32))) p5) refused above below_ bytesLong tokenAt tokenLong token value)) hx hb hK hS 1 rfl rfl g17 rfl dX9_note_138 (fun H locs hS => ?_)
      refine lv_aload_n hx hb dX9_note_139 rfl (lv_at hl 1 rfl) ?_
      refine s_get (C := RX9) (T := TX9) (N := 19) hx hb hts inX9 hown hK hS 0 rfl rfl 0 (by decide) (hts (.fieldLink RX9 7 "InnTurnedModel" "all" "[I") (List.mem_of_getElem? (i := 4) rfl)) rfl rfl dX9_note_140 ?_
      refine lv_iconst (v := (2 : Int32)) hx hb dX9_note_143 (by decide) ?_
      refine lv_dup2_11 hx hb dX9_note_144 rfl rfl ?_
      refine s_iald hx hb hK hS 1 rfl rfl (by decide) dX9_note_145 ?_
      refine lv_iconst (v := (1 : Int32)) hx hb dX9_note_146 (by decide) ?_
      refine lv_iadd hx hb dX9_note_147 ?_
      refine s_iast (ws' := (wd_X9_note cI cB cZ a_this a_all a_kept a_isKept a_refused a_hand a_outs a_order0 a_bestOrder a_tells a_bytes a_anew a_values (upd (upd (upd (upd (upd (upd all (Int32.toNatClampNeg ((58 : Int32) + ((5 : Int32) * (all (Int32.toNatClampNeg (2 : Int32)))))) p1) (Int32.toNatClampNeg (((58 : Int32) + ((5 : Int32) * (all (Int32.toNatClampNeg (2 : Int32))))) + (1 : Int32))) p2) (Int32.toNatClampNeg (((58 : Int32) + ((5 : Int32) * (all (Int32.toNatClampNeg (2 : Int32))))) + (2 : Int32))) p3) (Int32.toNatClampNeg (((58 : Int32) + ((5 : Int32) * (all (Int32.toNatClampNeg (2 : Int32))))) + (3 : Int32))) p4) (Int32.toNatClampNeg (((58 : Int32) + ((5 : Int32) * (all (Int32.toNatClampNeg (2 : Int32))))) + (4 : Int32))) p5) (Int32.toNatClampNeg (2 : Int32)) (((upd (upd (upd (upd (upd all (Int32.toNatClampNeg ((58 : Int32) + ((5 : Int32) * (all (Int32.toNatClampNeg (2 : Int32)))))) p1) (Int32.toNatClampNeg (((58 : Int32) + ((5 : Int32) * (all (Int32.toNatClampNeg (2 : Int32))))) + (1 : Int32))) p2) (Int32.toNatClampNeg (((58 : Int32) + ((5 : Int32) * (all (Int32.toNatClampNeg (2 : Int32))))) + (2 : Int32))) p3) (Int32.toNatClampNeg (((58 : Int32) + ((5 : Int32) * (all (Int32.toNatClampNeg (2 : Int32))))) + (3 : Int32))) p4) (Int32.toNatClampNeg (((58 : Int32) + ((5 : Int32) * (all (Int32.toNatClampNeg (2 : Int32))))) + (4 : Int32))) p5) (Int32.toNatClampNeg (2 : Int32))) + (1 : Int32))) refused above below_ bytesLong tokenAt tokenLong token value)) hx hb hK hS 1 rfl rfl (by decide) rfl dX9_note_148 (fun H locs hS => ?_)
      refine lv_aload_n hx hb dX9_note_149 rfl (lv_at hl 1 rfl) ?_
      refine s_get (C := RX9) (T := TX9) (N := 19) hx hb hts inX9 hown hK hS 0 rfl rfl 0 (by decide) (hts (.fieldLink RX9 7 "InnTurnedModel" "all" "[I") (List.mem_of_getElem? (i := 4) rfl)) rfl rfl dX9_note_150 ?_
      refine lv_iconst (v := (2 : Int32)) hx hb dX9_note_153 (by decide) ?_
      refine s_iald hx hb hK hS 1 rfl rfl (by decide) dX9_note_154 ?_
      obtain rfl := Option.some.inj h
      exact hend _ _ _ _ dX9_note_155 hS
    replace h := s_yes c12 h
    refine lv_aload_n hx hb dX9_note_71 rfl (lv_at hl 0 rfl) ?_
    obtain ⟨q18, hq18, h⟩ := s_bind h
    refine r_calliV (r := q18.1) (As := []) (rest := []) (wc := (wd_X9_full cI cB cZ a_this a_all a_kept a_isKept a_refused a_hand a_outs a_order0 a_bestOrder a_tells a_bytes a_anew a_values refused above below_ bytesLong tokenAt tokenLong token value)) (w1 := (wd_X9_full cI cB cZ a_this a_all a_kept a_isKept a_refused a_hand a_outs a_order0 a_bestOrder a_tells a_bytes a_anew a_values q18.2 above below_ bytesLong tokenAt tokenLong token value)) (ws' := (wd_X9_note cI cB cZ a_this a_all a_kept a_isKept a_refused a_hand a_outs a_order0 a_bestOrder a_tells a_bytes a_anew a_values all q18.2 above below_ bytesLong tokenAt tokenLong token value)) hx hb hml hown hts hK hA hl hS (c_X9_full l D cI cB cZ a_this a_all a_kept a_isKept a_refused a_hand a_outs a_order0 a_bestOrder a_tells a_bytes a_anew a_values refused above below_ bytesLong tokenAt tokenLong token value _ _ hq18) (cwV 0 hts gX9_note_X9_full rfl rfl rfl (by decide +kernel) ⟨Nat.le_of_ble_eq_true rfl, Nat.le_of_ble_eq_true rfl⟩) 0 rfl rfl [0, 2] rfl rfl rfl [.inr 0, .inl 1, .inr 1] rfl rfl rfl rfl (Nat.le_of_ble_eq_true rfl) dX9_note_72 (fun H locs hS => ?_)
    obtain rfl := Option.some.inj h
    exact hend _ _ _ _ dX9_note_75 hS
  replace h := s_yes c11 h
  exact w_X9_note_b53 C0 hend  all refused _ _ _ h hS (lv_sub hl [0] rfl)

-- InnTurnedModel.mark(III)I
def wd_X9_mark (cI cB cZ : ClassId) (a_this : Nat) (a_all : Nat) (a_kept : Nat) (a_isKept : Nat) (a_refused : Nat) (a_hand : Nat) (a_outs : Nat) (a_order0 : Nat) (a_bestOrder : Nat) (a_tells : Nat) (a_bytes : Nat) (a_anew : Nat) (a_values : Nat)  (all : (Nat → Int32)) (refused : (Nat → Int32)) (above : Int64) (below_ : Int64) (bytesLong : Int32) (tokenAt : Int32) (tokenLong : Int32) (token : Int32) (value : Int32) : va_W := [(a_this, .inr (6, [.ref a_all, .ref a_kept, .ref a_isKept, .ref a_refused, .long above, .long below_, .ref a_hand, .ref a_outs, .ref a_order0, .ref a_bestOrder, .ref a_tells, .ref a_bytes, .int bytesLong, .int tokenAt, .int tokenLong, .int token, .int value, .ref a_anew, .ref a_values])), (a_all, .inl (cI, 250, .inl all)), (a_refused, .inl (cI, 3, .inl refused))]
abbrev rm_X9_mark : Room := { frames := 2, cells := 0, slots := 0, locals := 45 }
set_option maxRecDepth 20000 in
theorem inX9_X9_mark : ∀ w ∈ u_ws RX9 TX9 19, w ∈ wsX9_mark := by decide +kernel
def f_X9_mark_b33   (all : (Nat → Int32)) (refused : (Nat → Int32)) : Option (Int32 × (Nat → Int32) × (Nat → Int32)) := ((f_X9_bad refused (-2 : Int32)).bind fun q1 => some (q1.1, all, q1.2))
set_option maxHeartbeats 4000000 in
set_option maxRecDepth 100000 in
theorem w_X9_mark_b33 {p : Program} {l : Launch} {e : Env} {s : State} {m : MethodId} {args : Array Value} {below : List Frame} {meth : Method} {c : Code} {A : Nat → Prop} {Q : State → Prop} {D : va_G} {cI cB cZ : ClassId} {a_this a_all a_kept a_isKept a_refused a_hand a_outs a_order0 a_bestOrder a_tells a_bytes a_anew a_values : Nat} {above : Int64} {below_ : Int64} {bytesLong : Int32} {tokenAt : Int32} {tokenLong : Int32} {token : Int32} {value : Int32} (C0 : Cx p s m args c cX9_mark 5 RX9 wsX9_mark D (s_tys cI cB cZ) A) {rv : Int32 × (Nat → Int32) × (Nat → Int32)} (hend : ∀ (pc : Nat) (H : Heap) (locs : List Loc) (ls : Array Slot), decode cX9_mark pc = .ok (.ireturn, 1) → sS D vwCl A s.heap (wd_X9_mark cI cB cZ a_this a_all a_kept a_isKept a_refused a_hand a_outs a_order0 a_bestOrder a_tells a_bytes a_anew a_values rv.2.1 rv.2.2 above below_ bytesLong tokenAt tokenLong token value) H locs → W p l e rm_X9_mark s m args below meth c H locs 0 0 Q (F0 m pc ls [.int rv.1])) : ∀ (all : (Nat → Int32)) (refused : (Nat → Int32)) (H : Heap) (locs : List Loc) (ls : Array Slot), f_X9_mark_b33  all refused = some rv → sS D vwCl A s.heap (wd_X9_mark cI cB cZ a_this a_all a_kept a_isKept a_refused a_hand a_outs a_order0 a_bestOrder a_tells a_bytes a_anew a_values all refused above below_ bytesLong tokenAt tokenLong token value) H locs → lv_has ls 5 [(0, .ref a_this)] → W p l e rm_X9_mark s m args below meth c H locs 0 0 Q (F0 m 33 ls []) := by
  obtain ⟨hx, hb, hml, hown, hts, hK, hA⟩ := id C0
  have inX9 : ∀ w ∈ u_ws RX9 TX9 19, w ∈ wsX9_mark := inX9_X9_mark
  intro all refused H locs ls h hS hl
  unfold f_X9_mark_b33 at h
  refine lv_aload_n hx hb dX9_mark_33 rfl (lv_at hl 0 rfl) ?_
  refine lv_bipush (v := (-2 : Int32)) hx hb dX9_mark_34 (by decide) ?_
  obtain ⟨q1, hq1, h⟩ := s_bind h
  refine r_calliV (r := q1.1) (As := [.int (-2 : Int32)]) (rest := []) (wc := (wd_X9_bad cI cB cZ a_this a_all a_kept a_isKept a_refused a_hand a_outs a_order0 a_bestOrder a_tells a_bytes a_anew a_values refused above below_ bytesLong tokenAt tokenLong token value)) (w1 := (wd_X9_bad cI cB cZ a_this a_all a_kept a_isKept a_refused a_hand a_outs a_order0 a_bestOrder a_tells a_bytes a_anew a_values q1.2 above below_ bytesLong tokenAt tokenLong token value)) (ws' := (wd_X9_mark cI cB cZ a_this a_all a_kept a_isKept a_refused a_hand a_outs a_order0 a_bestOrder a_tells a_bytes a_anew a_values all q1.2 above below_ bytesLong tokenAt tokenLong token value)) hx hb hml hown hts hK hA hl hS (c_X9_bad l D cI cB cZ a_this a_all a_kept a_isKept a_refused a_hand a_outs a_order0 a_bestOrder a_tells a_bytes a_anew a_values refused above below_ bytesLong tokenAt tokenLong token value (-2 : Int32) _ _ hq1) (cwV 1 hts gX9_mark_X9_bad rfl rfl rfl (by decide +kernel) ⟨Nat.le_of_ble_eq_true rfl, Nat.le_of_ble_eq_true rfl⟩) 0 rfl rfl [0, 2] rfl rfl rfl [.inr 0, .inl 1, .inr 1] rfl rfl rfl rfl (Nat.le_of_ble_eq_true rfl) dX9_mark_36 (fun H locs hS => ?_)
  obtain rfl := Option.some.inj h
  exact hend _ _ _ _ dX9_mark_39 hS
def f_X9_mark   (all : (Nat → Int32)) (refused : (Nat → Int32)) (p1 : Int32) (p2 : Int32) (p3 : Int32) : Option (Int32 × (Nat → Int32) × (Nat → Int32)) := ((f_X9_isWet p1).bind fun q2 => (if q2 = 0 then f_X9_mark_b33   all refused else ((f_X9_in (Int32.toInt64 p2) (0 : Int64) (9 : Int64)).bind fun q4 => (if q4 = 0 then f_X9_mark_b33   all refused else ((f_X9_in (Int32.toInt64 p3) (-20 : Int64) (99 : Int64)).bind fun q6 => (if q6 = 0 then f_X9_mark_b33   all refused else (if (all (Int32.toNatClampNeg (3 : Int32))) = (6 : Int32) then ((f_X9_full refused).bind fun q12 => some (q12.1, all, q12.2)) else (if ¬ (((88 : Int32) + ((3 : Int32) * (all (Int32.toNatClampNeg (3 : Int32))))) < 0 ∨ 250 ≤ (Int32.toNatClampNeg ((88 : Int32) + ((3 : Int32) * (all (Int32.toNatClampNeg (3 : Int32))))))) then (if ¬ ((((88 : Int32) + ((3 : Int32) * (all (Int32.toNatClampNeg (3 : Int32))))) + (1 : Int32)) < 0 ∨ 250 ≤ (Int32.toNatClampNeg (((88 : Int32) + ((3 : Int32) * (all (Int32.toNatClampNeg (3 : Int32))))) + (1 : Int32)))) then (if ¬ ((((88 : Int32) + ((3 : Int32) * (all (Int32.toNatClampNeg (3 : Int32))))) + (2 : Int32)) < 0 ∨ 250 ≤ (Int32.toNatClampNeg (((88 : Int32) + ((3 : Int32) * (all (Int32.toNatClampNeg (3 : Int32))))) + (2 : Int32)))) then some (((upd (upd (upd (upd all (Int32.toNatClampNeg ((88 : Int32) + ((3 : Int32) * (all (Int32.toNatClampNeg (3 : Int32)))))) p1) (Int32.toNatClampNeg (((88 : Int32) + ((3 : Int32) * (all (Int32.toNatClampNeg (3 : Int32))))) + (1 : Int32))) p2) (Int32.toNatClampNeg (((88 : Int32) + ((3 : Int32) * (all (Int32.toNatClampNeg (3 : Int32))))) + (2 : Int32))) p3) (Int32.toNatClampNeg (3 : Int32)) (((upd (upd (upd all (Int32.toNatClampNeg ((88 : Int32) + ((3 : Int32) * (all (Int32.toNatClampNeg (3 : Int32)))))) p1) (Int32.toNatClampNeg (((88 : Int32) + ((3 : Int32) * (all (Int32.toNatClampNeg (3 : Int32))))) + (1 : Int32))) p2) (Int32.toNatClampNeg (((88 : Int32) + ((3 : Int32) * (all (Int32.toNatClampNeg (3 : Int32))))) + (2 : Int32))) p3) (Int32.toNatClampNeg (3 : Int32))) + (1 : Int32))) (Int32.toNatClampNeg (3 : Int32))), (upd (upd (upd (upd all (Int32.toNatClampNeg ((88 : Int32) + ((3 : Int32) * (all (Int32.toNatClampNeg (3 : Int32)))))) p1) (Int32.toNatClampNeg (((88 : Int32) + ((3 : Int32) * (all (Int32.toNatClampNeg (3 : Int32))))) + (1 : Int32))) p2) (Int32.toNatClampNeg (((88 : Int32) + ((3 : Int32) * (all (Int32.toNatClampNeg (3 : Int32))))) + (2 : Int32))) p3) (Int32.toNatClampNeg (3 : Int32)) (((upd (upd (upd all (Int32.toNatClampNeg ((88 : Int32) + ((3 : Int32) * (all (Int32.toNatClampNeg (3 : Int32)))))) p1) (Int32.toNatClampNeg (((88 : Int32) + ((3 : Int32) * (all (Int32.toNatClampNeg (3 : Int32))))) + (1 : Int32))) p2) (Int32.toNatClampNeg (((88 : Int32) + ((3 : Int32) * (all (Int32.toNatClampNeg (3 : Int32))))) + (2 : Int32))) p3) (Int32.toNatClampNeg (3 : Int32))) + (1 : Int32))), refused) else none) else none) else none))))))))
set_option maxHeartbeats 4000000 in
set_option maxRecDepth 100000 in
theorem c_X9_mark (l : Launch) (D : va_G) (cI cB cZ : ClassId) (a_this : Nat) (a_all : Nat) (a_kept : Nat) (a_isKept : Nat) (a_refused : Nat) (a_hand : Nat) (a_outs : Nat) (a_order0 : Nat) (a_bestOrder : Nat) (a_tells : Nat) (a_bytes : Nat) (a_anew : Nat) (a_values : Nat) (all : (Nat → Int32)) (refused : (Nat → Int32)) (above : Int64) (below_ : Int64) (bytesLong : Int32) (tokenAt : Int32) (tokenLong : Int32) (token : Int32) (value : Int32) (p1 : Int32) (p2 : Int32) (p3 : Int32) (rv : Int32 × (Nat → Int32) × (Nat → Int32)) (sz : Nat) (hf : f_X9_mark all refused p1 p2 p3 = some rv) : Met l yX9_mark wsX9_mark rm_X9_mark (sPc D vwCl (s_tys cI cB cZ) [.ref a_this, .int p1, .int p2, .int p3] (wd_X9_mark cI cB cZ a_this a_all a_kept a_isKept a_refused a_hand a_outs a_order0 a_bestOrder a_tells a_bytes a_anew a_values all refused above below_ bytesLong tokenAt tokenLong token value) sz) (sQi D vwCl (wd_X9_mark cI cB cZ a_this a_all a_kept a_isKept a_refused a_hand a_outs a_order0 a_bestOrder a_tells a_bytes a_anew a_values all refused above below_ bytesLong tokenAt tokenLong token value) (wd_X9_mark cI cB cZ a_this a_all a_kept a_isKept a_refused a_hand a_outs a_order0 a_bestOrder a_tells a_bytes a_anew a_values rv.2.1 rv.2.2 above below_ bytesLong tokenAt tokenLong token value) sz rv.1) 0 0 (va_A (wd_X9_mark cI cB cZ a_this a_all a_kept a_isKept a_refused a_hand a_outs a_order0 a_bestOrder a_tells a_bytes a_anew a_values all refused above below_ bytesLong tokenAt tokenLong token value) sz) := by
  refine s_enter_n (cc := cX9_mark) (nL := 5) (r := rv.1) (by decide) rfl (Nat.le_of_ble_eq_true rfl) ?_
  intro p e s m args below meth c A Q C0 hend ls hl hS
  have h := hf
  clear hf
  replace hl : lv_has ls 5 [(0, .ref a_this), (1, .int p1), (2, .int p2), (3, .int p3)] := hl
  unfold f_X9_mark at h
  obtain ⟨hx, hb, hml, hown, hts, hK, hA⟩ := id C0
  have inX9 : ∀ w ∈ u_ws RX9 TX9 19, w ∈ wsX9_mark := inX9_X9_mark
  refine lv_iload_n hx hb dX9_mark_0 rfl (lv_at hl 1 rfl) ?_
  obtain ⟨q2, hq2, h⟩ := s_bind h
  refine u_calliS (r := q2) (As := [.int p1]) (rest := []) (wc := ([] : va_W)) hx hb hml hown hts hK hA hl hS (c_X9_isWet l D cI cB cZ p1 _ _ hq2) (va_cwS 1 hts gX9_mark_X9_isWet rfl rfl rfl (by decide +kernel) ⟨Nat.le_of_ble_eq_true rfl, Nat.le_of_ble_eq_true rfl⟩) [] rfl rfl rfl rfl (Nat.le_of_ble_eq_true rfl) dX9_mark_1 (fun H locs hS => ?_)
  refine lv_if_eq (tgt := 33) hx hb dX9_mark_4 (by decide) (fun c3 => ?_) (fun c3 => ?_)
  · replace h := s_yes c3 h
    exact w_X9_mark_b33 C0 hend  all refused _ _ _ h hS (lv_sub hl [0] rfl)
  replace h := s_no c3 h
  refine lv_iload_n hx hb dX9_mark_7 rfl (lv_at hl 2 rfl) ?_
  refine lv_i2l (v := (Int32.toInt64 p2)) hx hb dX9_mark_8 rfl ?_
  refine lv_lconst (v := (0 : Int64)) hx hb dX9_mark_9 (by decide) ?_
  refine lv_ldc2 (v := (9 : Int64)) hx hb hown (hts (.constantLong RX9 65 (9)) (List.mem_of_getElem? (i := 1) rfl)) dX9_mark_10 ?_
  obtain ⟨q4, hq4, h⟩ := s_bind h
  refine u_calliS (r := q4) (As := [.long (Int32.toInt64 p2), .long (0 : Int64), .long (9 : Int64)]) (rest := []) (wc := ([] : va_W)) hx hb hml hown hts hK hA hl hS (c_X9_in l D cI cB cZ (Int32.toInt64 p2) (0 : Int64) (9 : Int64) _ _ hq4) (va_cwS 3 hts gX9_mark_X9_in rfl rfl rfl (by decide +kernel) ⟨Nat.le_of_ble_eq_true rfl, Nat.le_of_ble_eq_true rfl⟩) [] rfl rfl rfl rfl (Nat.le_of_ble_eq_true rfl) dX9_mark_13 (fun H locs hS => ?_)
  refine lv_if_eq (tgt := 33) hx hb dX9_mark_16 (by decide) (fun c5 => ?_) (fun c5 => ?_)
  · replace h := s_yes c5 h
    exact w_X9_mark_b33 C0 hend  all refused _ _ _ h hS (lv_sub hl [0] rfl)
  replace h := s_no c5 h
  refine lv_iload_n hx hb dX9_mark_19 rfl (lv_at hl 3 rfl) ?_
  refine lv_i2l (v := (Int32.toInt64 p3)) hx hb dX9_mark_20 rfl ?_
  refine lv_ldc2 (v := (-20 : Int64)) hx hb hown (hts (.constantLong RX9 175 (-20)) (List.mem_of_getElem? (i := 2) rfl)) dX9_mark_21 ?_
  refine lv_ldc2 (v := (99 : Int64)) hx hb hown (hts (.constantLong RX9 141 (99)) (List.mem_of_getElem? (i := 3) rfl)) dX9_mark_24 ?_
  obtain ⟨q6, hq6, h⟩ := s_bind h
  refine u_calliS (r := q6) (As := [.long (Int32.toInt64 p3), .long (-20 : Int64), .long (99 : Int64)]) (rest := []) (wc := ([] : va_W)) hx hb hml hown hts hK hA hl hS (c_X9_in l D cI cB cZ (Int32.toInt64 p3) (-20 : Int64) (99 : Int64) _ _ hq6) (va_cwS 3 hts gX9_mark_X9_in rfl rfl rfl (by decide +kernel) ⟨Nat.le_of_ble_eq_true rfl, Nat.le_of_ble_eq_true rfl⟩) [] rfl rfl rfl rfl (Nat.le_of_ble_eq_true rfl) dX9_mark_27 (fun H locs hS => ?_)
  refine lv_if_ne (tgt := 40) hx hb dX9_mark_30 (by decide) (fun c7 => ?_) (fun c7 => ?_)
  · replace h := s_no c7 h
    refine lv_aload_n hx hb dX9_mark_40 rfl (lv_at hl 0 rfl) ?_
    refine s_get (C := RX9) (T := TX9) (N := 19) hx hb hts inX9 hown hK hS 0 rfl rfl 0 (by decide) (hts (.fieldLink RX9 7 "InnTurnedModel" "all" "[I") (List.mem_of_getElem? (i := 4) rfl)) rfl rfl dX9_mark_41 ?_
    refine lv_iconst (v := (3 : Int32)) hx hb dX9_mark_44 (by decide) ?_
    refine s_iald hx hb hK hS 1 rfl rfl (by decide) dX9_mark_45 ?_
    refine lv_bipush (v := (6 : Int32)) hx hb dX9_mark_46 (by decide) ?_
    refine lv_icmp_ne (tgt := 56) hx hb dX9_mark_48 (by decide) (fun c8 => ?_) (fun c8 => ?_)
    · replace h := s_no c8 h
      refine lv_bipush (v := (88 : Int32)) hx hb dX9_mark_56 (by decide) ?_
      refine lv_iconst (v := (3 : Int32)) hx hb dX9_mark_58 (by decide) ?_
      refine lv_aload_n hx hb dX9_mark_59 rfl (lv_at hl 0 rfl) ?_
      refine s_get (C := RX9) (T := TX9) (N := 19) hx hb hts inX9 hown hK hS 0 rfl rfl 0 (by decide) (hts (.fieldLink RX9 7 "InnTurnedModel" "all" "[I") (List.mem_of_getElem? (i := 4) rfl)) rfl rfl dX9_mark_60 ?_
      refine lv_iconst (v := (3 : Int32)) hx hb dX9_mark_63 (by decide) ?_
      refine s_iald hx hb hK hS 1 rfl rfl (by decide) dX9_mark_64 ?_
      refine lv_imul hx hb dX9_mark_65 ?_
      refine lv_iadd hx hb dX9_mark_66 ?_
      refine lv_istore (lv' := [(4, .int ((88 : Int32) + ((3 : Int32) * (all (Int32.toNatClampNeg (3 : Int32)))))), (0, .ref a_this), (1, .int p1), (2, .int p2), (3, .int p3)]) hx hb dX9_mark_67 hl (by decide) rfl (fun ls hl => ?_)
      refine lv_aload_n hx hb dX9_mark_69 rfl (lv_at hl 1 rfl) ?_
      refine s_get (C := RX9) (T := TX9) (N := 19) hx hb hts inX9 hown hK hS 0 rfl rfl 0 (by decide) (hts (.fieldLink RX9 7 "InnTurnedModel" "all" "[I") (List.mem_of_getElem? (i := 4) rfl)) rfl rfl dX9_mark_70 ?_
      refine lv_iload hx hb dX9_mark_73 (lv_at hl 0 rfl) ?_
      refine lv_iload_n hx hb dX9_mark_75 rfl (lv_at hl 2 rfl) ?_
      obtain ⟨g9, h⟩ := s_guard h
      refine s_iast (ws' := (wd_X9_mark cI cB cZ a_this a_all a_kept a_isKept a_refused a_hand a_outs a_order0 a_bestOrder a_tells a_bytes a_anew a_values (upd all (Int32.toNatClampNeg ((88 : Int32) + ((3 : Int32) * (all (Int32.toNatClampNeg (3 : Int32)))))) p1) refused above below_ bytesLong tokenAt tokenLong token value)) hx hb hK hS 1 rfl rfl g9 rfl dX9_mark_76 (fun H locs hS => ?_)
      refine lv_aload_n hx hb dX9_mark_77 rfl (lv_at hl 1 rfl) ?_
      refine s_get (C := RX9) (T := TX9) (N := 19) hx hb hts inX9 hown hK hS 0 rfl rfl 0 (by decide) (hts (.fieldLink RX9 7 "InnTurnedModel" "all" "[I") (List.mem_of_getElem? (i := 4) rfl)) rfl rfl dX9_mark_78 ?_
      refine lv_iload hx hb dX9_mark_81 (lv_at hl 0 rfl) ?_
      refine lv_iconst (v := (1 : Int32)) hx hb dX9_mark_83 (by decide) ?_
      refine lv_iadd hx hb dX9_mark_84 ?_
      refine lv_iload_n hx hb dX9_mark_85 rfl (lv_at hl 3 rfl) ?_
      obtain ⟨g10, h⟩ := s_guard h
      refine s_iast (ws' := (wd_X9_mark cI cB cZ a_this a_all a_kept a_isKept a_refused a_hand a_outs a_order0 a_bestOrder a_tells a_bytes a_anew a_values (upd (upd all (Int32.toNatClampNeg ((88 : Int32) + ((3 : Int32) * (all (Int32.toNatClampNeg (3 : Int32)))))) p1) (Int32.toNatClampNeg (((88 : Int32) + ((3 : Int32) * (all (Int32.toNatClampNeg (3 : Int32))))) + (1 : Int32))) p2) refused above below_ bytesLong tokenAt tokenLong token value)) hx hb hK hS 1 rfl rfl g10 rfl dX9_mark_86 (fun H locs hS => ?_)
      refine lv_aload_n hx hb dX9_mark_87 rfl (lv_at hl 1 rfl) ?_
      refine s_get (C := RX9) (T := TX9) (N := 19) hx hb hts inX9 hown hK hS 0 rfl rfl 0 (by decide) (hts (.fieldLink RX9 7 "InnTurnedModel" "all" "[I") (List.mem_of_getElem? (i := 4) rfl)) rfl rfl dX9_mark_88 ?_
      refine lv_iload hx hb dX9_mark_91 (lv_at hl 0 rfl) ?_
      refine lv_iconst (v := (2 : Int32)) hx hb dX9_mark_93 (by decide) ?_
      refine lv_iadd hx hb dX9_mark_94 ?_
      refine lv_iload_n hx hb dX9_mark_95 rfl (lv_at hl 4 rfl) ?_
      obtain ⟨g11, h⟩ := s_guard h
      refine s_iast (ws' := (wd_X9_mark cI cB cZ a_this a_all a_kept a_isKept a_refused a_hand a_outs a_order0 a_bestOrder a_tells a_bytes a_anew a_values (upd (upd (upd all (Int32.toNatClampNeg ((88 : Int32) + ((3 : Int32) * (all (Int32.toNatClampNeg (3 : Int32)))))) p1) (Int32.toNatClampNeg (((88 : Int32) + ((3 : Int32) * (all (Int32.toNatClampNeg (3 : Int32))))) + (1 : Int32))) p2) (Int32.toNatClampNeg (((88 : Int32) + ((3 : Int32) * (all (Int32.toNatClampNeg (3 : Int32))))) + (2 : Int32))) p3) refused above below_ bytesLong tokenAt tokenLong token value)) hx hb hK hS 1 rfl rfl g11 rfl dX9_mark_96 (fun H locs hS => ?_)
      refine lv_aload_n hx hb dX9_mark_97 rfl (lv_at hl 1 rfl) ?_
      refine s_get (C := RX9) (T := TX9) (N := 19) hx hb hts inX9 hown hK hS 0 rfl rfl 0 (by decide) (hts (.fieldLink RX9 7 "InnTurnedModel" "all" "[I") (List.mem_of_getElem? (i := 4) rfl)) rfl rfl dX9_mark_98 ?_
      refine lv_iconst (v := (3 : Int32)) hx hb dX9_mark_101 (by decide) ?_
      refine lv_dup2_11 hx hb dX9_mark_102 rfl rfl ?_
      refine s_iald hx hb hK hS 1 rfl rfl (by decide) dX9_mark_103 ?_
      refine lv_iconst (v := (1 : Int32)) hx hb dX9_mark_104 (by decide) ?_
      refine lv_iadd hx hb dX9_mark_105 ?_
      refine s_iast (ws' := (wd_X9_mark cI cB cZ a_this a_all a_kept a_isKept a_refused a_hand a_outs a_order0 a_bestOrder a_tells a_bytes a_anew a_values (upd (upd (upd (upd all (Int32.toNatClampNeg ((88 : Int32) + ((3 : Int32) * (all (Int32.toNatClampNeg (3 : Int32)))))) p1) (Int32.toNatClampNeg (((88 : Int32) + ((3 : Int32) * (all (Int32.toNatClampNeg (3 : Int32))))) + (1 : Int32))) p2) (Int32.toNatClampNeg (((88 : Int32) + ((3 : Int32) * (all (Int32.toNatClampNeg (3 : Int32))))) + (2 : Int32))) p3) (Int32.toNatClampNeg (3 : Int32)) (((upd (upd (upd all (Int32.toNatClampNeg ((88 : Int32) + ((3 : Int32) * (all (Int32.toNatClampNeg (3 : Int32)))))) p1) (Int32.toNatClampNeg (((88 : Int32) + ((3 : Int32) * (all (Int32.toNatClampNeg (3 : Int32))))) + (1 : Int32))) p2) (Int32.toNatClampNeg (((88 : Int32) + ((3 : Int32) * (all (Int32.toNatClampNeg (3 : Int32))))) + (2 : Int32))) p3) (Int32.toNatClampNeg (3 : Int32))) + (1 : Int32))) refused above below_ bytesLong tokenAt tokenLong token value)) hx hb hK hS 1 rfl rfl (by decide) rfl dX9_mark_106 (fun H locs hS => ?_)
      refine lv_aload_n hx hb dX9_mark_107 rfl (lv_at hl 1 rfl) ?_
      refine s_get (C := RX9) (T := TX9) (N := 19) hx hb hts inX9 hown hK hS 0 rfl rfl 0 (by decide) (hts (.fieldLink RX9 7 "InnTurnedModel" "all" "[I") (List.mem_of_getElem? (i := 4) rfl)) rfl rfl dX9_mark_108 ?_
      refine lv_iconst (v := (3 : Int32)) hx hb dX9_mark_111 (by decide) ?_
      refine s_iald hx hb hK hS 1 rfl rfl (by decide) dX9_mark_112 ?_
      obtain rfl := Option.some.inj h
      exact hend _ _ _ _ dX9_mark_113 hS
    replace h := s_yes c8 h
    refine lv_aload_n hx hb dX9_mark_51 rfl (lv_at hl 0 rfl) ?_
    obtain ⟨q12, hq12, h⟩ := s_bind h
    refine r_calliV (r := q12.1) (As := []) (rest := []) (wc := (wd_X9_full cI cB cZ a_this a_all a_kept a_isKept a_refused a_hand a_outs a_order0 a_bestOrder a_tells a_bytes a_anew a_values refused above below_ bytesLong tokenAt tokenLong token value)) (w1 := (wd_X9_full cI cB cZ a_this a_all a_kept a_isKept a_refused a_hand a_outs a_order0 a_bestOrder a_tells a_bytes a_anew a_values q12.2 above below_ bytesLong tokenAt tokenLong token value)) (ws' := (wd_X9_mark cI cB cZ a_this a_all a_kept a_isKept a_refused a_hand a_outs a_order0 a_bestOrder a_tells a_bytes a_anew a_values all q12.2 above below_ bytesLong tokenAt tokenLong token value)) hx hb hml hown hts hK hA hl hS (c_X9_full l D cI cB cZ a_this a_all a_kept a_isKept a_refused a_hand a_outs a_order0 a_bestOrder a_tells a_bytes a_anew a_values refused above below_ bytesLong tokenAt tokenLong token value _ _ hq12) (cwV 0 hts gX9_mark_X9_full rfl rfl rfl (by decide +kernel) ⟨Nat.le_of_ble_eq_true rfl, Nat.le_of_ble_eq_true rfl⟩) 0 rfl rfl [0, 2] rfl rfl rfl [.inr 0, .inl 1, .inr 1] rfl rfl rfl rfl (Nat.le_of_ble_eq_true rfl) dX9_mark_52 (fun H locs hS => ?_)
    obtain rfl := Option.some.inj h
    exact hend _ _ _ _ dX9_mark_55 hS
  replace h := s_yes c7 h
  exact w_X9_mark_b33 C0 hend  all refused _ _ _ h hS (lv_sub hl [0] rfl)

