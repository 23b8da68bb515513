-- InnTurnedModel.from(I)I
def wd_X9_from (cI cB cZ : ClassId) (a_this : Nat) (a_all : Nat) (a_kept : Nat) (a_isKept : Nat) (a_refused : Nat) (a_hand : Nat) (a_outs : Nat) (a_order0 : Nat) (a_bestOrder : Nat) (a_tells : Nat) (a_bytes : Nat) (a_anew : Nat) (a_values : Nat)  (all : (Nat → Int32)) (kept : (Nat → Int32)) (isKept : (Nat → Int32)) (refused : (Nat → Int32)) (above : Int64) (below_ : Int64) (bytesLong : Int32) (tokenAt : Int32) (tokenLong : Int32) (token : Int32) (value : Int32) : va_W := [(a_this, .inr (6, [.ref a_all, .ref a_kept, .ref a_isKept, .ref a_refused, .long above, .long below_, .ref a_hand, .ref a_outs, .ref a_order0, .ref a_bestOrder, .ref a_tells, .ref a_bytes, .int bytesLong, .int tokenAt, .int tokenLong, .int token, .int value, .ref a_anew, .ref a_values])), (a_all, .inl (cI, 250, .inl all)), (a_kept, .inl (cI, 500, .inl kept)), (a_isKept, .inl (cZ, 2, .inl isKept)), (a_refused, .inl (cI, 3, .inl refused))]
abbrev rm_X9_from : Room := { frames := 1, cells := 0, slots := 0, locals := 25 }
set_option maxRecDepth 20000 in
theorem inX9_X9_from : ∀ w ∈ u_ws RX9 TX9 19, w ∈ wsX9_from := by decide +kernel
def f_X9_from_b33  (kept : (Nat → Int32)) (isKept : (Nat → Int32)) : Nat → (Nat → Int32) → (Nat → Int32) → Int32 → Int32 → Option (Int32 × (Nat → Int32) × (Nat → Int32))
  | 0, _, _, _, _ => none
  | fu + 1, all, refused, l1, l2 => (if (250 : Int32) ≤ l2 then some ((1 : Int32), all, refused) else (if ¬ ((((250 : Int32) * l1) + l2) < 0 ∨ 500 ≤ (Int32.toNatClampNeg (((250 : Int32) * l1) + l2))) then (if ¬ (l2 < 0 ∨ 250 ≤ (Int32.toNatClampNeg l2)) then (f_X9_from_b33 kept isKept fu) (upd all (Int32.toNatClampNeg l2) (kept (Int32.toNatClampNeg (((250 : Int32) * l1) + l2)))) refused l1 (l2 + (1 : Int32)) else none) else none))
set_option maxHeartbeats 4000000 in
set_option maxRecDepth 100000 in
theorem w_X9_from_b33 {p : Program} {l : Launch} {e : Env} {s : State} {m : MethodId} {args : Array Value} {below : List Frame} {meth : Method} {c : Code} {A : Nat → Prop} {Q : State → Prop} {D : va_G} {cI cB cZ : ClassId} {a_this a_all a_kept a_isKept a_refused a_hand a_outs a_order0 a_bestOrder a_tells a_bytes a_anew a_values : Nat} {kept : (Nat → Int32)} {isKept : (Nat → Int32)} {above : Int64} {below_ : Int64} {bytesLong : Int32} {tokenAt : Int32} {tokenLong : Int32} {token : Int32} {value : Int32} (C0 : Cx p s m args c cX9_from 3 RX9 wsX9_from D (s_tys cI cB cZ) A) {rv : Int32 × (Nat → Int32) × (Nat → Int32)} (hend : ∀ (pc : Nat) (H : Heap) (locs : List Loc) (ls : Array Slot), decode cX9_from pc = .ok (.ireturn, 1) → sS D vwCl A s.heap (wd_X9_from cI cB cZ a_this a_all a_kept a_isKept a_refused a_hand a_outs a_order0 a_bestOrder a_tells a_bytes a_anew a_values rv.2.1 kept isKept rv.2.2 above below_ bytesLong tokenAt tokenLong token value) H locs → W p l e rm_X9_from s m args below meth c H locs 0 0 Q (F0 m pc ls [.int rv.1])) : ∀ (fu : Nat) (all : (Nat → Int32)) (refused : (Nat → Int32)) (l1 : Int32) (l2 : Int32) (H : Heap) (locs : List Loc) (ls : Array Slot), f_X9_from_b33 kept isKept fu all refused l1 l2 = some rv → sS D vwCl A s.heap (wd_X9_from cI cB cZ a_this a_all a_kept a_isKept a_refused a_hand a_outs a_order0 a_bestOrder a_tells a_bytes a_anew a_values all kept isKept refused above below_ bytesLong tokenAt tokenLong token value) H locs → lv_has ls 3 [(0, .ref a_this), (1, .int l1), (2, .int l2)] → W p l e rm_X9_from s m args below meth c H locs 0 0 Q (F0 m 33 ls []) := by
  obtain ⟨hx, hb, hml, hown, hts, hK, hA⟩ := id C0
  have inX9 : ∀ w ∈ u_ws RX9 TX9 19, w ∈ wsX9_from := inX9_X9_from
  intro fu
  induction fu with
  | zero => intro all refused l1 l2 H locs ls h; cases h
  | succ fu ih =>
    intro all refused l1 l2 H locs ls h hS hl
    rw [f_X9_from_b33] at h
    refine lv_iload_n hx hb dX9_from_33 rfl (lv_at hl 2 rfl) ?_
    refine lv_sipush (v := (250 : Int32)) hx hb dX9_from_34 (by decide) ?_
    refine lv_icmp_ge (tgt := 64) hx hb dX9_from_37 (by decide) (fun c1 => ?_) (fun c1 => ?_)
    · replace h := s_yes c1 h
      refine lv_iconst (v := (1 : Int32)) hx hb dX9_from_64 (by decide) ?_
      obtain rfl := Option.some.inj h
      exact hend _ _ _ _ dX9_from_65 hS
    replace h := s_no c1 h
    refine lv_aload_n hx hb dX9_from_40 rfl (lv_at hl 0 rfl) ?_
    refine s_get (C := RX9) (T := TX9) (N := 19) hx hb hts inX9 hown hK hS 0 rfl rfl 0 (by decide) (hts (.fieldLink RX9 7 "InnTurnedModel" "all" "[I") (List.mem_of_getElem? (i := 2) rfl)) rfl rfl dX9_from_41 ?_
    refine lv_iload_n hx hb dX9_from_44 rfl (lv_at hl 2 rfl) ?_
    refine lv_aload_n hx hb dX9_from_45 rfl (lv_at hl 0 rfl) ?_
    refine s_get (C := RX9) (T := TX9) (N := 19) hx hb hts inX9 hown hK hS 0 rfl rfl 1 (by decide) (hts (.fieldLink RX9 13 "InnTurnedModel" "kept" "[I") (List.mem_of_getElem? (i := 3) rfl)) rfl rfl dX9_from_46 ?_
    refine lv_sipush (v := (250 : Int32)) hx hb dX9_from_49 (by decide) ?_
    refine lv_iload_n hx hb dX9_from_52 rfl (lv_at hl 1 rfl) ?_
    refine lv_imul hx hb dX9_from_53 ?_
    refine lv_iload_n hx hb dX9_from_54 rfl (lv_at hl 2 rfl) ?_
    refine lv_iadd hx hb dX9_from_55 ?_
    obtain ⟨g2, h⟩ := s_guard h
    refine s_iald hx hb hK hS 2 rfl rfl g2 dX9_from_56 ?_
    obtain ⟨g3, h⟩ := s_guard h
    refine s_iast (ws' := (wd_X9_from cI cB cZ a_this a_all a_kept a_isKept a_refused a_hand a_outs a_order0 a_bestOrder a_tells a_bytes a_anew a_values (upd all (Int32.toNatClampNeg l2) (kept (Int32.toNatClampNeg (((250 : Int32) * l1) + l2)))) kept isKept refused above below_ bytesLong tokenAt tokenLong token value)) hx hb hK hS 1 rfl rfl g3 rfl dX9_from_57 (fun H locs hS => ?_)
    refine lv_iinc (v := (l2 + (1 : Int32))) (lv' := [(2, .int (l2 + (1 : Int32))), (0, .ref a_this), (1, .int l1)]) hx hb dX9_from_58 hl (k := 2) rfl rfl (by decide) rfl (fun ls hl => ?_)
    refine lv_goto (tgt := 33) hx hb dX9_from_61 (by decide) ?_
    exact ih (upd all (Int32.toNatClampNeg l2) (kept (Int32.toNatClampNeg (((250 : Int32) * l1) + l2)))) refused l1 (l2 + (1 : Int32)) _ _ _ h hS (lv_sub hl [1, 2, 0] rfl)
def f_X9_from  (kept : (Nat → Int32)) (isKept : (Nat → Int32)) (all : (Nat → Int32)) (refused : (Nat → Int32)) (p1 : Int32) : Option (Int32 × (Nat → Int32) × (Nat → Int32)) := ((f_X9_in (Int32.toInt64 p1) (0 : Int64) (1 : Int64)).bind fun q4 => (if q4 = 0 then ((f_X9_bad refused (-2 : Int32)).bind fun q9 => some (q9.1, all, q9.2)) else (if ¬ (p1 < 0 ∨ 2 ≤ (Int32.toNatClampNeg p1)) then (if (isKept (Int32.toNatClampNeg p1)) = 0 then ((f_X9_no refused).bind fun q8 => some (q8.1, all, q8.2)) else f_X9_from_b33  kept isKept s_fuel all refused p1 (0 : Int32)) else none)))
set_option maxHeartbeats 4000000 in
set_option maxRecDepth 100000 in
theorem c_X9_from (l : Launch) (D : va_G) (cI cB cZ : ClassId) (a_this : Nat) (a_all : Nat) (a_kept : Nat) (a_isKept : Nat) (a_refused : Nat) (a_hand : Nat) (a_outs : Nat) (a_order0 : Nat) (a_bestOrder : Nat) (a_tells : Nat) (a_bytes : Nat) (a_anew : Nat) (a_values : Nat) (all : (Nat → Int32)) (kept : (Nat → Int32)) (isKept : (Nat → Int32)) (refused : (Nat → Int32)) (above : Int64) (below_ : Int64) (bytesLong : Int32) (tokenAt : Int32) (tokenLong : Int32) (token : Int32) (value : Int32) (p1 : Int32) (rv : Int32 × (Nat → Int32) × (Nat → Int32)) (sz : Nat) (hf : f_X9_from kept isKept all refused p1 = some rv) : Met l yX9_from wsX9_from rm_X9_from (sPc D vwCl (s_tys cI cB cZ) [.ref a_this, .int p1] (wd_X9_from cI cB cZ a_this a_all a_kept a_isKept a_refused a_hand a_outs a_order0 a_bestOrder a_tells a_bytes a_anew a_values all kept isKept refused above below_ bytesLong tokenAt tokenLong token value) sz) (sQi D vwCl (wd_X9_from cI cB cZ a_this a_all a_kept a_isKept a_refused a_hand a_outs a_order0 a_bestOrder a_tells a_bytes a_anew a_values all kept isKept refused above below_ bytesLong tokenAt tokenLong token value) (wd_X9_from cI cB cZ a_this a_all a_kept a_isKept a_refused a_hand a_outs a_order0 a_bestOrder a_tells a_bytes a_anew a_values rv.2.1 kept isKept rv.2.2 above below_ bytesLong tokenAt tokenLong token value) sz rv.1) 0 0 (va_A (wd_X9_from cI cB cZ a_this a_all a_kept a_isKept a_refused a_hand a_outs a_order0 a_bestOrder a_tells a_bytes a_anew a_values all kept isKept refused above below_ bytesLong tokenAt tokenLong token value) sz) := by
  refine s_enter_n (cc := cX9_from) (nL := 3) (r := rv.1) (by decide) rfl (Nat.le_of_ble_eq_true rfl) ?_
  intro p e s m args below meth c A Q C0 hend ls hl hS
  have h := hf
  clear hf
  replace hl : lv_has ls 3 [(0, .ref a_this), (1, .int p1)] := hl
  unfold f_X9_from at h
  obtain ⟨hx, hb, hml, hown, hts, hK, hA⟩ := id C0
  have inX9 : ∀ w ∈ u_ws RX9 TX9 19, w ∈ wsX9_from := inX9_X9_from
  refine lv_iload_n hx hb dX9_from_0 rfl (lv_at hl 1 rfl) ?_
  refine lv_i2l (v := (Int32.toInt64 p1)) hx hb dX9_from_1 rfl ?_
  refine lv_lconst (v := (0 : Int64)) hx hb dX9_from_2 (by decide) ?_
  refine lv_lconst (v := (1 : Int64)) hx hb dX9_from_3 (by decide) ?_
  obtain ⟨q4, hq4, h⟩ := s_bind h
  refine u_calliS (r := q4) (As := [.long (Int32.toInt64 p1), .long (0 : Int64), .long (1 : Int64)]) (rest := []) (wc := ([] : va_W)) hx hb hml hown hts hK hA hl hS (c_X9_in l D cI cB cZ (Int32.toInt64 p1) (0 : Int64) (1 : Int64) _ _ hq4) (va_cwS 3 hts gX9_from_X9_in rfl rfl rfl (by decide +kernel) ⟨Nat.le_of_ble_eq_true rfl, Nat.le_of_ble_eq_true rfl⟩) [] rfl rfl rfl rfl (Nat.le_of_ble_eq_true rfl) dX9_from_4 (fun H locs hS => ?_)
  refine lv_if_ne (tgt := 17) hx hb dX9_from_7 (by decide) (fun c5 => ?_) (fun c5 => ?_)
  · replace h := s_no c5 h
    refine lv_aload_n hx hb dX9_from_17 rfl (lv_at hl 0 rfl) ?_
    refine s_get (C := RX9) (T := TX9) (N := 19) hx hb hts inX9 hown hK hS 0 rfl rfl 2 (by decide) (hts (.fieldLink RX9 16 "InnTurnedModel" "isKept" "[Z") (List.mem_of_getElem? (i := 1) rfl)) rfl rfl dX9_from_18 ?_
    refine lv_iload_n hx hb dX9_from_21 rfl (lv_at hl 1 rfl) ?_
    obtain ⟨g6, h⟩ := s_guard h
    refine s_zald hx hb hK hS 3 rfl rfl g6 dX9_from_22 ?_
    refine lv_if_ne (tgt := 31) hx hb dX9_from_23 (by decide) (fun c7 => ?_) (fun c7 => ?_)
    · replace h := s_no c7 h
      refine lv_iconst (v := (0 : Int32)) hx hb dX9_from_31 (by decide) ?_
      refine lv_istore_n (lv' := [(2, .int (0 : Int32)), (0, .ref a_this), (1, .int p1)]) hx hb dX9_from_32 rfl hl (by decide) rfl (fun ls hl => ?_)
      exact w_X9_from_b33 C0 hend  s_fuel all refused p1 (0 : Int32) _ _ _ h hS (lv_sub hl [1, 2, 0] rfl)
    replace h := s_yes c7 h
    refine lv_aload_n hx hb dX9_from_26 rfl (lv_at hl 0 rfl) ?_
    obtain ⟨q8, hq8, h⟩ := s_bind h
    refine r_calliV (r := q8.1) (As := []) (rest := []) (wc := (wd_X9_no cI cB cZ a_this a_all a_kept a_isKept a_refused a_hand a_outs a_order0 a_bestOrder a_tells a_bytes a_anew a_values refused above below_ bytesLong tokenAt tokenLong token value)) (w1 := (wd_X9_no cI cB cZ a_this a_all a_kept a_isKept a_refused a_hand a_outs a_order0 a_bestOrder a_tells a_bytes a_anew a_values q8.2 above below_ bytesLong tokenAt tokenLong token value)) (ws' := (wd_X9_from cI cB cZ a_this a_all a_kept a_isKept a_refused a_hand a_outs a_order0 a_bestOrder a_tells a_bytes a_anew a_values all kept isKept q8.2 above below_ bytesLong tokenAt tokenLong token value)) hx hb hml hown hts hK hA hl hS (c_X9_no l D cI cB cZ a_this a_all a_kept a_isKept a_refused a_hand a_outs a_order0 a_bestOrder a_tells a_bytes a_anew a_values refused above below_ bytesLong tokenAt tokenLong token value _ _ hq8) (cwV 0 hts gX9_from_X9_no rfl rfl rfl (by decide +kernel) ⟨Nat.le_of_ble_eq_true rfl, Nat.le_of_ble_eq_true rfl⟩) 0 rfl rfl [0, 4] rfl rfl rfl [.inr 0, .inl 1, .inl 2, .inl 3, .inr 1] rfl rfl rfl rfl (Nat.le_of_ble_eq_true rfl) dX9_from_27 (fun H locs hS => ?_)
    obtain rfl := Option.some.inj h
    exact hend _ _ _ _ dX9_from_30 hS
  replace h := s_yes c5 h
  refine lv_aload_n hx hb dX9_from_10 rfl (lv_at hl 0 rfl) ?_
  refine lv_bipush (v := (-2 : Int32)) hx hb dX9_from_11 (by decide) ?_
  obtain ⟨q9, hq9, h⟩ := s_bind h
  refine r_calliV (r := q9.1) (As := [.int (-2 : Int32)]) (rest := []) (wc := (wd_X9_bad cI cB cZ a_this a_all a_kept a_isKept a_refused a_hand a_outs a_order0 a_bestOrder a_tells a_bytes a_anew a_values refused above below_ bytesLong tokenAt tokenLong token value)) (w1 := (wd_X9_bad cI cB cZ a_this a_all a_kept a_isKept a_refused a_hand a_outs a_order0 a_bestOrder a_tells a_bytes a_anew a_values q9.2 above below_ bytesLong tokenAt tokenLong token value)) (ws' := (wd_X9_from cI cB cZ a_this a_all a_kept a_isKept a_refused a_hand a_outs a_order0 a_bestOrder a_tells a_bytes a_anew a_values all kept isKept q9.2 above below_ bytesLong tokenAt tokenLong token value)) hx hb hml hown hts hK hA hl hS (c_X9_bad l D cI cB cZ a_this a_all a_kept a_isKept a_refused a_hand a_outs a_order0 a_bestOrder a_tells a_bytes a_anew a_values refused above below_ bytesLong tokenAt tokenLong token value (-2 : Int32) _ _ hq9) (cwV 1 hts gX9_from_X9_bad rfl rfl rfl (by decide +kernel) ⟨Nat.le_of_ble_eq_true rfl, Nat.le_of_ble_eq_true rfl⟩) 0 rfl rfl [0, 4] rfl rfl rfl [.inr 0, .inl 1, .inl 2, .inl 3, .inr 1] rfl rfl rfl rfl (Nat.le_of_ble_eq_true rfl) dX9_from_13 (fun H locs hS => ?_)
  obtain rfl := Option.some.inj h
  exact hend _ _ _ _ dX9_from_16 hS

-- InnTurnedModel.status(I)I
def wd_X9_status (cI cB cZ : ClassId) (a_this : Nat) (a_all : Nat) (a_kept : Nat) (a_isKept : Nat) (a_refused : Nat) (a_hand : Nat) (a_outs : Nat) (a_order0 : Nat) (a_bestOrder : Nat) (a_tells : Nat) (a_bytes : Nat) (a_anew : Nat) (a_values : Nat)  (refused : (Nat → Int32)) (above : Int64) (below_ : Int64) (bytesLong : Int32) (tokenAt : Int32) (tokenLong : Int32) (token : Int32) (value : Int32) : va_W := [(a_this, .inr (6, [.ref a_all, .ref a_kept, .ref a_isKept, .ref a_refused, .long above, .long below_, .ref a_hand, .ref a_outs, .ref a_order0, .ref a_bestOrder, .ref a_tells, .ref a_bytes, .int bytesLong, .int tokenAt, .int tokenLong, .int token, .int value, .ref a_anew, .ref a_values])), (a_refused, .inl (cI, 3, .inl refused))]
abbrev rm_X9_status : Room := { frames := 1, cells := 0, slots := 0, locals := 25 }
set_option maxRecDepth 20000 in
theorem inX9_X9_status : ∀ w ∈ u_ws RX9 TX9 19, w ∈ wsX9_status := by decide +kernel
def f_X9_status   (refused : (Nat → Int32)) (p1 : Int32) : Option (Int32 × (Nat → Int32)) := ((f_X9_in (Int32.toInt64 p1) (0 : Int64) (2 : Int64)).bind fun q1 => (if q1 = 0 then ((f_X9_bad refused (-1 : Int32)).bind fun q3 => some (q3.1, q3.2)) else (if ¬ (p1 < 0 ∨ 3 ≤ (Int32.toNatClampNeg p1)) then some ((refused (Int32.toNatClampNeg p1)), refused) else none)))
set_option maxHeartbeats 4000000 in
set_option maxRecDepth 100000 in
theorem c_X9_status (l : Launch) (D : va_G) (cI cB cZ : ClassId) (a_this : Nat) (a_all : Nat) (a_kept : Nat) (a_isKept : Nat) (a_refused : Nat) (a_hand : Nat) (a_outs : Nat) (a_order0 : Nat) (a_bestOrder : Nat) (a_tells : Nat) (a_bytes : Nat) (a_anew : Nat) (a_values : Nat) (refused : (Nat → Int32)) (above : Int64) (below_ : Int64) (bytesLong : Int32) (tokenAt : Int32) (tokenLong : Int32) (token : Int32) (value : Int32) (p1 : Int32) (rv : Int32 × (Nat → Int32)) (sz : Nat) (hf : f_X9_status refused p1 = some rv) : Met l yX9_status wsX9_status rm_X9_status (sPc D vwCl (s_tys cI cB cZ) [.ref a_this, .int p1] (wd_X9_status cI cB cZ a_this a_all a_kept a_isKept a_refused a_hand a_outs a_order0 a_bestOrder a_tells a_bytes a_anew a_values refused above below_ bytesLong tokenAt tokenLong token value) sz) (sQi D vwCl (wd_X9_status cI cB cZ a_this a_all a_kept a_isKept a_refused a_hand a_outs a_order0 a_bestOrder a_tells a_bytes a_anew a_values refused above below_ bytesLong tokenAt tokenLong token value) (wd_X9_status cI cB cZ a_this a_all a_kept a_isKept a_refused a_hand a_outs a_order0 a_bestOrder a_tells a_bytes a_anew a_values rv.2 above below_ bytesLong tokenAt tokenLong token value) sz rv.1) 0 0 (va_A (wd_X9_status cI cB cZ a_this a_all a_kept a_isKept a_refused a_hand a_outs a_order0 a_bestOrder a_tells a_bytes a_anew a_values refused above below_ bytesLong tokenAt tokenLong token value) sz) := by
  refine s_enter_n (cc := cX9_status) (nL := 2) (r := rv.1) (by decide) rfl (Nat.le_of_ble_eq_true rfl) ?_
  intro p e s m args below meth c A Q C0 hend ls hl hS
  have h := hf
  clear hf
  replace hl : lv_has ls 2 [(0, .ref a_this), (1, .int p1)] := hl
  unfold f_X9_status at h
  obtain ⟨hx, hb, hml, hown, hts, hK, hA⟩ := id C0
  have inX9 : ∀ w ∈ u_ws RX9 TX9 19, w ∈ wsX9_status := inX9_X9_status
  refine lv_iload_n hx hb dX9_status_0 rfl (lv_at hl 1 rfl) ?_
  refine lv_i2l (v := (Int32.toInt64 p1)) hx hb dX9_status_1 rfl ?_
  refine lv_lconst (v := (0 : Int64)) hx hb dX9_status_2 (by decide) ?_
  refine lv_ldc2 (v := (2 : Int64)) hx hb hown (hts (.constantLong RX9 167 (2)) (List.mem_of_getElem? (i := 1) rfl)) dX9_status_3 ?_
  obtain ⟨q1, hq1, h⟩ := s_bind h
  refine u_calliS (r := q1) (As := [.long (Int32.toInt64 p1), .long (0 : Int64), .long (2 : Int64)]) (rest := []) (wc := ([] : va_W)) hx hb hml hown hts hK hA hl hS (c_X9_in l D cI cB cZ (Int32.toInt64 p1) (0 : Int64) (2 : Int64) _ _ hq1) (va_cwS 3 hts gX9_status_X9_in rfl rfl rfl (by decide +kernel) ⟨Nat.le_of_ble_eq_true rfl, Nat.le_of_ble_eq_true rfl⟩) [] rfl rfl rfl rfl (Nat.le_of_ble_eq_true rfl) dX9_status_6 (fun H locs hS => ?_)
  refine lv_if_eq (tgt := 21) hx hb dX9_status_9 (by decide) (fun c2 => ?_) (fun c2 => ?_)
  · replace h := s_yes c2 h
    refine lv_aload_n hx hb dX9_status_21 rfl (lv_at hl 0 rfl) ?_
    refine lv_iconst (v := (-1 : Int32)) hx hb dX9_status_22 (by decide) ?_
    obtain ⟨q3, hq3, h⟩ := s_bind h
    refine r_calliV (r := q3.1) (As := [.int (-1 : Int32)]) (rest := []) (wc := (wd_X9_bad cI cB cZ a_this a_all a_kept a_isKept a_refused a_hand a_outs a_order0 a_bestOrder a_tells a_bytes a_anew a_values refused above below_ bytesLong tokenAt tokenLong token value)) (w1 := (wd_X9_bad cI cB cZ a_this a_all a_kept a_isKept a_refused a_hand a_outs a_order0 a_bestOrder a_tells a_bytes a_anew a_values q3.2 above below_ bytesLong tokenAt tokenLong token value)) (ws' := (wd_X9_status cI cB cZ a_this a_all a_kept a_isKept a_refused a_hand a_outs a_order0 a_bestOrder a_tells a_bytes a_anew a_values q3.2 above below_ bytesLong tokenAt tokenLong token value)) hx hb hml hown hts hK hA hl hS (c_X9_bad l D cI cB cZ a_this a_all a_kept a_isKept a_refused a_hand a_outs a_order0 a_bestOrder a_tells a_bytes a_anew a_values refused above below_ bytesLong tokenAt tokenLong token value (-1 : Int32) _ _ hq3) (cwV 1 hts gX9_status_X9_bad rfl rfl rfl (by decide +kernel) ⟨Nat.le_of_ble_eq_true rfl, Nat.le_of_ble_eq_true rfl⟩) 0 rfl rfl [0, 1] rfl rfl rfl [.inr 0, .inr 1] rfl rfl rfl rfl (Nat.le_of_ble_eq_true rfl) dX9_status_23 (fun H locs hS => ?_)
    obtain rfl := Option.some.inj h
    exact hend _ _ _ _ dX9_status_26 hS
  replace h := s_no c2 h
  refine lv_aload_n hx hb dX9_status_12 rfl (lv_at hl 0 rfl) ?_
  refine s_get (C := RX9) (T := TX9) (N := 19) hx hb hts inX9 hown hK hS 0 rfl rfl 3 (by decide) (hts (.fieldLink RX9 20 "InnTurnedModel" "refused" "[I") (List.mem_of_getElem? (i := 2) rfl)) rfl rfl dX9_status_13 ?_
  refine lv_iload_n hx hb dX9_status_16 rfl (lv_at hl 1 rfl) ?_
  obtain ⟨g4, h⟩ := s_guard h
  refine s_iald hx hb hK hS 1 rfl rfl g4 dX9_status_17 ?_
  refine lv_goto (tgt := 26) hx hb dX9_status_18 (by decide) ?_
  obtain rfl := Option.some.inj h
  exact hend _ _ _ _ dX9_status_26 hS

-- InnTurnedModel.counted(I)I
def wd_X9_counted (cI cB cZ : ClassId) (a_this : Nat) (a_all : Nat) (a_kept : Nat) (a_isKept : Nat) (a_refused : Nat) (a_hand : Nat) (a_outs : Nat) (a_order0 : Nat) (a_bestOrder : Nat) (a_tells : Nat) (a_bytes : Nat) (a_anew : Nat) (a_values : Nat)  (all : (Nat → Int32)) (above : Int64) (below_ : Int64) (bytesLong : Int32) (tokenAt : Int32) (tokenLong : Int32) (token : Int32) (value : Int32) : va_W := [(a_this, .inr (6, [.ref a_all, .ref a_kept, .ref a_isKept, .ref a_refused, .long above, .long below_, .ref a_hand, .ref a_outs, .ref a_order0, .ref a_bestOrder, .ref a_tells, .ref a_bytes, .int bytesLong, .int tokenAt, .int tokenLong, .int token, .int value, .ref a_anew, .ref a_values])), (a_all, .inl (cI, 250, .inl all))]
abbrev rm_X9_counted : Room := { frames := 1, cells := 0, slots := 0, locals := 22 }
set_option maxRecDepth 20000 in
theorem inX9_X9_counted : ∀ w ∈ u_ws RX9 TX9 19, w ∈ wsX9_counted := by decide +kernel
def f_X9_counted_b111  (all : (Nat → Int32)) (bytesLong : Int32)  (l1 : Int32) : Option (Int32) := (if ¬ ((((1 : Int32) + l1) - (4 : Int32)) < 0 ∨ 250 ≤ (Int32.toNatClampNeg (((1 : Int32) + l1) - (4 : Int32)))) then some ((all (Int32.toNatClampNeg (((1 : Int32) + l1) - (4 : Int32))))) else none)
set_option maxHeartbeats 4000000 in
set_option maxRecDepth 100000 in
theorem w_X9_counted_b111 {p : Program} {l : Launch} {e : Env} {s : State} {m : MethodId} {args : Array Value} {below : List Frame} {meth : Method} {c : Code} {A : Nat → Prop} {Q : State → Prop} {D : va_G} {cI cB cZ : ClassId} {a_this a_all a_kept a_isKept a_refused a_hand a_outs a_order0 a_bestOrder a_tells a_bytes a_anew a_values : Nat} {all : (Nat → Int32)} {above : Int64} {below_ : Int64} {bytesLong : Int32} {tokenAt : Int32} {tokenLong : Int32} {token : Int32} {value : Int32} (C0 : Cx p s m args c cX9_counted 4 RX9 wsX9_counted D (s_tys cI cB cZ) A) {rv : Int32} (hend : ∀ (pc : Nat) (H : Heap) (locs : List Loc) (ls : Array Slot), decode cX9_counted pc = .ok (.ireturn, 1) → sS D vwCl A s.heap (wd_X9_counted cI cB cZ a_this a_all a_kept a_isKept a_refused a_hand a_outs a_order0 a_bestOrder a_tells a_bytes a_anew a_values all above below_ bytesLong tokenAt tokenLong token value) H locs → W p l e rm_X9_counted s m args below meth c H locs 0 0 Q (F0 m pc ls [.int rv])) : ∀  (l1 : Int32) (H : Heap) (locs : List Loc) (ls : Array Slot), f_X9_counted_b111 all bytesLong l1 = some rv → sS D vwCl A s.heap (wd_X9_counted cI cB cZ a_this a_all a_kept a_isKept a_refused a_hand a_outs a_order0 a_bestOrder a_tells a_bytes a_anew a_values all above below_ bytesLong tokenAt tokenLong token value) H locs → lv_has ls 4 [(0, .ref a_this), (1, .int l1)] → W p l e rm_X9_counted s m args below meth c H locs 0 0 Q (F0 m 111 ls []) := by
  obtain ⟨hx, hb, hml, hown, hts, hK, hA⟩ := id C0
  have inX9 : ∀ w ∈ u_ws RX9 TX9 19, w ∈ wsX9_counted := inX9_X9_counted
  intro l1 H locs ls h hS hl
  unfold f_X9_counted_b111 at h
  refine lv_aload_n hx hb dX9_counted_111 rfl (lv_at hl 0 rfl) ?_
  refine s_get (C := RX9) (T := TX9) (N := 19) hx hb hts inX9 hown hK hS 0 rfl rfl 0 (by decide) (hts (.fieldLink RX9 7 "InnTurnedModel" "all" "[I") (List.mem_of_getElem? (i := 1) rfl)) rfl rfl dX9_counted_112 ?_
  refine lv_iconst (v := (1 : Int32)) hx hb dX9_counted_115 (by decide) ?_
  refine lv_iload_n hx hb dX9_counted_116 rfl (lv_at hl 1 rfl) ?_
  refine lv_iadd hx hb dX9_counted_117 ?_
  refine lv_iconst (v := (4 : Int32)) hx hb dX9_counted_118 (by decide) ?_
  refine lv_isub hx hb dX9_counted_119 ?_
  obtain ⟨g1, h⟩ := s_guard h
  refine s_iald hx hb hK hS 1 rfl rfl g1 dX9_counted_120 ?_
  obtain rfl := Option.some.inj h
  exact hend _ _ _ _ dX9_counted_121 hS
def f_X9_counted_b4  (all : (Nat → Int32)) (bytesLong : Int32) : Nat → Int32 → Int32 → Int32 → Option (Int32)
  | 0, _, _, _ => none
  | fu + 1, l1, l2, l3 => ((f_X9_many all).bind fun q2 => (if q2 ≤ l3 then (if l1 = (0 : Int32) then ((f_X9_many all).bind fun q5 => some (q5)) else (if l1 = (1 : Int32) then ((f_X9_bits (all (Int32.toNatClampNeg (19 : Int32)))).bind fun q7 => some (q7)) else (if l1 = (2 : Int32) then some ((all (Int32.toNatClampNeg (22 : Int32)))) else (if l1 = (3 : Int32) then some (l2) else (if l1 = (4 : Int32) then f_X9_counted_b111  all bytesLong l1 else (if l1 = (5 : Int32) then f_X9_counted_b111  all bytesLong l1 else (if l1 = (6 : Int32) then f_X9_counted_b111  all bytesLong l1 else (if l1 = (7 : Int32) then f_X9_counted_b111  all bytesLong l1 else (if l1 = (8 : Int32) then some (bytesLong) else f_X9_counted_b111  all bytesLong l1))))))))) else (if ¬ (((12 : Int32) + l3) < 0 ∨ 250 ≤ (Int32.toNatClampNeg ((12 : Int32) + l3))) then (f_X9_counted_b4 all bytesLong fu) l1 (l2 + (all (Int32.toNatClampNeg ((12 : Int32) + l3)))) (l3 + (1 : Int32)) else none)))
set_option maxHeartbeats 4000000 in
set_option maxRecDepth 100000 in
theorem w_X9_counted_b4 {p : Program} {l : Launch} {e : Env} {s : State} {m : MethodId} {args : Array Value} {below : List Frame} {meth : Method} {c : Code} {A : Nat → Prop} {Q : State → Prop} {D : va_G} {cI cB cZ : ClassId} {a_this a_all a_kept a_isKept a_refused a_hand a_outs a_order0 a_bestOrder a_tells a_bytes a_anew a_values : Nat} {all : (Nat → Int32)} {above : Int64} {below_ : Int64} {bytesLong : Int32} {tokenAt : Int32} {tokenLong : Int32} {token : Int32} {value : Int32} (C0 : Cx p s m args c cX9_counted 4 RX9 wsX9_counted D (s_tys cI cB cZ) A) {rv : Int32} (hend : ∀ (pc : Nat) (H : Heap) (locs : List Loc) (ls : Array Slot), decode cX9_counted pc = .ok (.ireturn, 1) → sS D vwCl A s.heap (wd_X9_counted cI cB cZ a_this a_all a_kept a_isKept a_refused a_hand a_outs a_order0 a_bestOrder a_tells a_bytes a_anew a_values all above below_ bytesLong tokenAt tokenLong token value) H locs → W p l e rm_X9_counted s m args below meth c H locs 0 0 Q (F0 m pc ls [.int rv])) : ∀ (fu : Nat)  (l1 : Int32) (l2 : Int32) (l3 : Int32) (H : Heap) (locs : List Loc) (ls : Array Slot), f_X9_counted_b4 all bytesLong fu l1 l2 l3 = some rv → sS D vwCl A s.heap (wd_X9_counted cI cB cZ a_this a_all a_kept a_isKept a_refused a_hand a_outs a_order0 a_bestOrder a_tells a_bytes a_anew a_values all above below_ bytesLong tokenAt tokenLong token value) H locs → lv_has ls 4 [(0, .ref a_this), (1, .int l1), (2, .int l2), (3, .int l3)] → W p l e rm_X9_counted s m args below meth c H locs 0 0 Q (F0 m 4 ls []) := by
  obtain ⟨hx, hb, hml, hown, hts, hK, hA⟩ := id C0
  have inX9 : ∀ w ∈ u_ws RX9 TX9 19, w ∈ wsX9_counted := inX9_X9_counted
  intro fu
  induction fu with
  | zero => intro l1 l2 l3 H locs ls h; cases h
  | succ fu ih =>
    intro l1 l2 l3 H locs ls h hS hl
    rw [f_X9_counted_b4] at h
    refine lv_iload_n hx hb dX9_counted_4 rfl (lv_at hl 3 rfl) ?_
    refine lv_aload_n hx hb dX9_counted_5 rfl (lv_at hl 0 rfl) ?_
    obtain ⟨q2, hq2, h⟩ := s_bind h
    refine u_calliV (r := q2) (As := []) (rest := [.int l3]) (wc := (wd_X9_many cI cB cZ a_this a_all a_kept a_isKept a_refused a_hand a_outs a_order0 a_bestOrder a_tells a_bytes a_anew a_values all above below_ bytesLong tokenAt tokenLong token value)) hx hb hml hown hts hK hA hl hS (c_X9_many l D cI cB cZ a_this a_all a_kept a_isKept a_refused a_hand a_outs a_order0 a_bestOrder a_tells a_bytes a_anew a_values all above below_ bytesLong tokenAt tokenLong token value _ _ hq2) (cwV 0 hts gX9_counted_X9_many rfl rfl rfl (by decide +kernel) ⟨Nat.le_of_ble_eq_true rfl, Nat.le_of_ble_eq_true rfl⟩) 0 rfl rfl [0, 1] rfl rfl rfl rfl (Nat.le_of_ble_eq_true rfl) dX9_counted_6 (fun H locs hS => ?_)
    refine lv_icmp_ge (tgt := 30) hx hb dX9_counted_9 (by decide) (fun c3 => ?_) (fun c3 => ?_)
    · replace h := s_yes c3 h
      refine lv_iload_n hx hb dX9_counted_30 rfl (lv_at hl 1 rfl) ?_
      by_cases e4 : l1 = (0 : Int32)
      · refine s_sw hx hb (0 : Int32) e4 dX9_counted_31 (tgt := 80) (by decide) (by decide) rfl (by decide) ?_
        replace h := s_yes e4 h
        refine lv_aload_n hx hb dX9_counted_80 rfl (lv_at hl 0 rfl) ?_
        obtain ⟨q5, hq5, h⟩ := s_bind h
        refine u_calliV (r := q5) (As := []) (rest := []) (wc := (wd_X9_many cI cB cZ a_this a_all a_kept a_isKept a_refused a_hand a_outs a_order0 a_bestOrder a_tells a_bytes a_anew a_values all above below_ bytesLong tokenAt tokenLong token value)) hx hb hml hown hts hK hA hl hS (c_X9_many l D cI cB cZ a_this a_all a_kept a_isKept a_refused a_hand a_outs a_order0 a_bestOrder a_tells a_bytes a_anew a_values all above below_ bytesLong tokenAt tokenLong token value _ _ hq5) (cwV 0 hts gX9_counted_X9_many rfl rfl rfl (by decide +kernel) ⟨Nat.le_of_ble_eq_true rfl, Nat.le_of_ble_eq_true rfl⟩) 0 rfl rfl [0, 1] rfl rfl rfl rfl (Nat.le_of_ble_eq_true rfl) dX9_counted_81 (fun H locs hS => ?_)
        obtain rfl := Option.some.inj h
        exact hend _ _ _ _ dX9_counted_84 hS
      replace h := s_no e4 h
      by_cases e6 : l1 = (1 : Int32)
      · refine s_sw hx hb (1 : Int32) e6 dX9_counted_31 (tgt := 85) (by decide) (by decide) rfl (by decide) ?_
        replace h := s_yes e6 h
        refine lv_aload_n hx hb dX9_counted_85 rfl (lv_at hl 0 rfl) ?_
        refine s_get (C := RX9) (T := TX9) (N := 19) hx hb hts inX9 hown hK hS 0 rfl rfl 0 (by decide) (hts (.fieldLink RX9 7 "InnTurnedModel" "all" "[I") (List.mem_of_getElem? (i := 1) rfl)) rfl rfl dX9_counted_86 ?_
        refine lv_bipush (v := (19 : Int32)) hx hb dX9_counted_89 (by decide) ?_
        refine s_iald hx hb hK hS 1 rfl rfl (by decide) dX9_counted_91 ?_
        obtain ⟨q7, hq7, h⟩ := s_bind h
        refine u_calliS (r := q7) (As := [.int (all (Int32.toNatClampNeg (19 : Int32)))]) (rest := []) (wc := ([] : va_W)) hx hb hml hown hts hK hA hl hS (c_X9_bits l D cI cB cZ (all (Int32.toNatClampNeg (19 : Int32))) _ _ hq7) (va_cwS 1 hts gX9_counted_X9_bits rfl rfl rfl (by decide +kernel) ⟨Nat.le_of_ble_eq_true rfl, Nat.le_of_ble_eq_true rfl⟩) [] rfl rfl rfl rfl (Nat.le_of_ble_eq_true rfl) dX9_counted_92 (fun H locs hS => ?_)
        obtain rfl := Option.some.inj h
        exact hend _ _ _ _ dX9_counted_95 hS
      replace h := s_no e6 h
      by_cases e8 : l1 = (2 : Int32)
      · refine s_sw hx hb (2 : Int32) e8 dX9_counted_31 (tgt := 96) (by decide) (by decide) rfl (by decide) ?_
        replace h := s_yes e8 h
        refine lv_aload_n hx hb dX9_counted_96 rfl (lv_at hl 0 rfl) ?_
        refine s_get (C := RX9) (T := TX9) (N := 19) hx hb hts inX9 hown hK hS 0 rfl rfl 0 (by decide) (hts (.fieldLink RX9 7 "InnTurnedModel" "all" "[I") (List.mem_of_getElem? (i := 1) rfl)) rfl rfl dX9_counted_97 ?_
        refine lv_bipush (v := (22 : Int32)) hx hb dX9_counted_100 (by decide) ?_
        refine s_iald hx hb hK hS 1 rfl rfl (by decide) dX9_counted_102 ?_
        obtain rfl := Option.some.inj h
        exact hend _ _ _ _ dX9_counted_103 hS
      replace h := s_no e8 h
      by_cases e9 : l1 = (3 : Int32)
      · refine s_sw hx hb (3 : Int32) e9 dX9_counted_31 (tgt := 104) (by decide) (by decide) rfl (by decide) ?_
        replace h := s_yes e9 h
        refine lv_iload_n hx hb dX9_counted_104 rfl (lv_at hl 2 rfl) ?_
        obtain rfl := Option.some.inj h
        exact hend _ _ _ _ dX9_counted_105 hS
      replace h := s_no e9 h
      by_cases e10 : l1 = (4 : Int32)
      · refine s_sw hx hb (4 : Int32) e10 dX9_counted_31 (tgt := 111) (by decide) (by decide) rfl (by decide) ?_
        replace h := s_yes e10 h
        exact w_X9_counted_b111 C0 hend  l1 _ _ _ h hS (lv_sub hl [0, 1] rfl)
      replace h := s_no e10 h
      by_cases e11 : l1 = (5 : Int32)
      · refine s_sw hx hb (5 : Int32) e11 dX9_counted_31 (tgt := 111) (by decide) (by decide) rfl (by decide) ?_
        replace h := s_yes e11 h
        exact w_X9_counted_b111 C0 hend  l1 _ _ _ h hS (lv_sub hl [0, 1] rfl)
      replace h := s_no e11 h
      by_cases e12 : l1 = (6 : Int32)
      · refine s_sw hx hb (6 : Int32) e12 dX9_counted_31 (tgt := 111) (by decide) (by decide) rfl (by decide) ?_
        replace h := s_yes e12 h
        exact w_X9_counted_b111 C0 hend  l1 _ _ _ h hS (lv_sub hl [0, 1] rfl)
      replace h := s_no e12 h
      by_cases e13 : l1 = (7 : Int32)
      · refine s_sw hx hb (7 : Int32) e13 dX9_counted_31 (tgt := 111) (by decide) (by decide) rfl (by decide) ?_
        replace h := s_yes e13 h
        exact w_X9_counted_b111 C0 hend  l1 _ _ _ h hS (lv_sub hl [0, 1] rfl)
      replace h := s_no e13 h
      by_cases e14 : l1 = (8 : Int32)
      · refine s_sw hx hb (8 : Int32) e14 dX9_counted_31 (tgt := 106) (by decide) (by decide) rfl (by decide) ?_
        replace h := s_yes e14 h
        refine lv_aload_n hx hb dX9_counted_106 rfl (lv_at hl 0 rfl) ?_
        refine s_get (C := RX9) (T := TX9) (N := 19) hx hb hts inX9 hown hK hS 0 rfl rfl 12 (by decide) (hts (.fieldLink RX9 216 "InnTurnedModel" "bytesLong" "I") (List.mem_of_getElem? (i := 2) rfl)) rfl rfl dX9_counted_107 ?_
        obtain rfl := Option.some.inj h
        exact hend _ _ _ _ dX9_counted_110 hS
      replace h := s_no e14 h
      refine lv_tableOut (tgt := 111) hx hb dX9_counted_31 (by have ze4 := s_ne 0 (by exact e4) (by decide); have ze6 := s_ne 1 (by exact e6) (by decide); have ze8 := s_ne 2 (by exact e8) (by decide); have ze9 := s_ne 3 (by exact e9) (by decide); have ze10 := s_ne 4 (by exact e10) (by decide); have ze11 := s_ne 5 (by exact e11) (by decide); have ze12 := s_ne 6 (by exact e12) (by decide); have ze13 := s_ne 7 (by exact e13) (by decide); have ze14 := s_ne 8 (by exact e14) (by decide); omega) (by decide) ?_
      exact w_X9_counted_b111 C0 hend  l1 _ _ _ h hS (lv_sub hl [0, 1] rfl)
    replace h := s_no c3 h
    refine lv_iload_n hx hb dX9_counted_12 rfl (lv_at hl 2 rfl) ?_
    refine lv_aload_n hx hb dX9_counted_13 rfl (lv_at hl 0 rfl) ?_
    refine s_get (C := RX9) (T := TX9) (N := 19) hx hb hts inX9 hown hK hS 0 rfl rfl 0 (by decide) (hts (.fieldLink RX9 7 "InnTurnedModel" "all" "[I") (List.mem_of_getElem? (i := 1) rfl)) rfl rfl dX9_counted_14 ?_
    refine lv_bipush (v := (12 : Int32)) hx hb dX9_counted_17 (by decide) ?_
    refine lv_iload_n hx hb dX9_counted_19 rfl (lv_at hl 3 rfl) ?_
    refine lv_iadd hx hb dX9_counted_20 ?_
    obtain ⟨g15, h⟩ := s_guard h
    refine s_iald hx hb hK hS 1 rfl rfl g15 dX9_counted_21 ?_
    refine lv_iadd hx hb dX9_counted_22 ?_
    refine lv_istore_n (lv' := [(2, .int (l2 + (all (Int32.toNatClampNeg ((12 : Int32) + l3))))), (0, .ref a_this), (1, .int l1), (3, .int l3)]) hx hb dX9_counted_23 rfl hl (by decide) rfl (fun ls hl => ?_)
    refine lv_iinc (v := (l3 + (1 : Int32))) (lv' := [(3, .int (l3 + (1 : Int32))), (2, .int (l2 + (all (Int32.toNatClampNeg ((12 : Int32) + l3))))), (0, .ref a_this), (1, .int l1)]) hx hb dX9_counted_24 hl (k := 3) rfl rfl (by decide) rfl (fun ls hl => ?_)
    refine lv_goto (tgt := 4) hx hb dX9_counted_27 (by decide) ?_
    exact ih l1 (l2 + (all (Int32.toNatClampNeg ((12 : Int32) + l3)))) (l3 + (1 : Int32)) _ _ _ h hS (lv_sub hl [2, 3, 1, 0] rfl)
def f_X9_counted  (all : (Nat → Int32)) (bytesLong : Int32)  (p1 : Int32) : Option (Int32) := f_X9_counted_b4  all bytesLong s_fuel p1 (0 : Int32) (0 : Int32)
set_option maxHeartbeats 4000000 in
set_option maxRecDepth 100000 in
theorem c_X9_counted (l : Launch) (D : va_G) (cI cB cZ : ClassId) (a_this : Nat) (a_all : Nat) (a_kept : Nat) (a_isKept : Nat) (a_refused : Nat) (a_hand : Nat) (a_outs : Nat) (a_order0 : Nat) (a_bestOrder : Nat) (a_tells : Nat) (a_bytes : Nat) (a_anew : Nat) (a_values : Nat) (all : (Nat → Int32)) (above : Int64) (below_ : Int64) (bytesLong : Int32) (tokenAt : Int32) (tokenLong : Int32) (token : Int32) (value : Int32) (p1 : Int32) (rv : Int32) (sz : Nat) (hf : f_X9_counted all bytesLong p1 = some rv) : Met l yX9_counted wsX9_counted rm_X9_counted (sPc D vwCl (s_tys cI cB cZ) [.ref a_this, .int p1] (wd_X9_counted cI cB cZ a_this a_all a_kept a_isKept a_refused a_hand a_outs a_order0 a_bestOrder a_tells a_bytes a_anew a_values all above below_ bytesLong tokenAt tokenLong token value) sz) (sQi D vwCl (wd_X9_counted cI cB cZ a_this a_all a_kept a_isKept a_refused a_hand a_outs a_order0 a_bestOrder a_tells a_bytes a_anew a_values all above below_ bytesLong tokenAt tokenLong token value) (wd_X9_counted cI cB cZ a_this a_all a_kept a_isKept a_refused a_hand a_outs a_order0 a_bestOrder a_tells a_bytes a_anew a_values all above below_ bytesLong tokenAt tokenLong token value) sz rv) 0 0 (va_A (wd_X9_counted cI cB cZ a_this a_all a_kept a_isKept a_refused a_hand a_outs a_order0 a_bestOrder a_tells a_bytes a_anew a_values all above below_ bytesLong tokenAt tokenLong token value) sz) := by
  refine s_enter_n (cc := cX9_counted) (nL := 4) (r := rv) (by decide) rfl (Nat.le_of_ble_eq_true rfl) ?_
  intro p e s m args below meth c A Q C0 hend ls hl hS
  have h := hf
  clear hf
  replace hl : lv_has ls 4 [(0, .ref a_this), (1, .int p1)] := hl
  unfold f_X9_counted at h
  obtain ⟨hx, hb, hml, hown, hts, hK, hA⟩ := id C0
  have inX9 : ∀ w ∈ u_ws RX9 TX9 19, w ∈ wsX9_counted := inX9_X9_counted
  refine lv_iconst (v := (0 : Int32)) hx hb dX9_counted_0 (by decide) ?_
  refine lv_istore_n (lv' := [(2, .int (0 : Int32)), (0, .ref a_this), (1, .int p1)]) hx hb dX9_counted_1 rfl hl (by decide) rfl (fun ls hl => ?_)
  refine lv_iconst (v := (0 : Int32)) hx hb dX9_counted_2 (by decide) ?_
  refine lv_istore_n (lv' := [(3, .int (0 : Int32)), (2, .int (0 : Int32)), (0, .ref a_this), (1, .int p1)]) hx hb dX9_counted_3 rfl hl (by decide) rfl (fun ls hl => ?_)
  exact w_X9_counted_b4 C0 hend  s_fuel p1 (0 : Int32) (0 : Int32) _ _ _ h hS (lv_sub hl [2, 3, 1, 0] rfl)

-- InnTurnedModel.count(I)I
def wd_X9_count (cI cB cZ : ClassId) (a_this : Nat) (a_all : Nat) (a_kept : Nat) (a_isKept : Nat) (a_refused : Nat) (a_hand : Nat) (a_outs : Nat) (a_order0 : Nat) (a_bestOrder : Nat) (a_tells : Nat) (a_bytes : Nat) (a_anew : Nat) (a_values : Nat)  (all : (Nat → Int32)) (refused : (Nat → Int32)) (above : Int64) (below_ : Int64) (bytesLong : Int32) (tokenAt : Int32) (tokenLong : Int32) (token : Int32) (value : Int32) : va_W := [(a_this, .inr (6, [.ref a_all, .ref a_kept, .ref a_isKept, .ref a_refused, .long above, .long below_, .ref a_hand, .ref a_outs, .ref a_order0, .ref a_bestOrder, .ref a_tells, .ref a_bytes, .int bytesLong, .int tokenAt, .int tokenLong, .int token, .int value, .ref a_anew, .ref a_values])), (a_all, .inl (cI, 250, .inl all)), (a_refused, .inl (cI, 3, .inl refused))]
abbrev rm_X9_count : Room := { frames := 2, cells := 0, slots := 0, locals := 45 }
def f_X9_count  (all : (Nat → Int32)) (bytesLong : Int32) (refused : (Nat → Int32)) (p1 : Int32) : Option (Int32 × (Nat → Int32)) := ((f_X9_in (Int32.toInt64 p1) (0 : Int64) (8 : Int64)).bind fun q1 => (if q1 = 0 then ((f_X9_bad refused (-2 : Int32)).bind fun q3 => some (q3.1, q3.2)) else ((f_X9_counted all bytesLong p1).bind fun q4 => some (q4, refused))))
set_option maxHeartbeats 4000000 in
set_option maxRecDepth 100000 in
theorem c_X9_count (l : Launch) (D : va_G) (cI cB cZ : ClassId) (a_this : Nat) (a_all : Nat) (a_kept : Nat) (a_isKept : Nat) (a_refused : Nat) (a_hand : Nat) (a_outs : Nat) (a_order0 : Nat) (a_bestOrder : Nat) (a_tells : Nat) (a_bytes : Nat) (a_anew : Nat) (a_values : Nat) (all : (Nat → Int32)) (refused : (Nat → Int32)) (above : Int64) (below_ : Int64) (bytesLong : Int32) (tokenAt : Int32) (tokenLong : Int32) (token : Int32) (value : Int32) (p1 : Int32) (rv : Int32 × (Nat → Int32)) (sz : Nat) (hf : f_X9_count all bytesLong refused p1 = some rv) : Met l yX9_count wsX9_count rm_X9_count (sPc D vwCl (s_tys cI cB cZ) [.ref a_this, .int p1] (wd_X9_count cI cB cZ a_this a_all a_kept a_isKept a_refused a_hand a_outs a_order0 a_bestOrder a_tells a_bytes a_anew a_values all refused above below_ bytesLong tokenAt tokenLong token value) sz) (sQi D vwCl (wd_X9_count cI cB cZ a_this a_all a_kept a_isKept a_refused a_hand a_outs a_order0 a_bestOrder a_tells a_bytes a_anew a_values all refused above below_ bytesLong tokenAt tokenLong token value) (wd_X9_count cI cB cZ a_this a_all a_kept a_isKept a_refused a_hand a_outs a_order0 a_bestOrder a_tells a_bytes a_anew a_values all rv.2 above below_ bytesLong tokenAt tokenLong token value) sz rv.1) 0 0 (va_A (wd_X9_count cI cB cZ a_this a_all a_kept a_isKept a_refused a_hand a_outs a_order0 a_bestOrder a_tells a_bytes a_anew a_values all refused above below_ bytesLong tokenAt tokenLong token value) sz) := by
  refine s_enter_n (cc := cX9_count) (nL := 2) (r := rv.1) (by decide) rfl (Nat.le_of_ble_eq_true rfl) ?_
  intro p e s m args below meth c A Q C0 hend ls hl hS
  have h := hf
  clear hf
  replace hl : lv_has ls 2 [(0, .ref a_this), (1, .int p1)] := hl
  unfold f_X9_count at h
  obtain ⟨hx, hb, hml, hown, hts, hK, hA⟩ := id C0
  refine lv_iload_n hx hb dX9_count_0 rfl (lv_at hl 1 rfl) ?_
  refine lv_i2l (v := (Int32.toInt64 p1)) hx hb dX9_count_1 rfl ?_
  refine lv_lconst (v := (0 : Int64)) hx hb dX9_count_2 (by decide) ?_
  refine lv_ldc2 (v := (8 : Int64)) hx hb hown (hts (.constantLong RX9 212 (8)) (List.mem_of_getElem? (i := 1) rfl)) dX9_count_3 ?_
  obtain ⟨q1, hq1, h⟩ := s_bind h
  refine u_calliS (r := q1) (As := [.long (Int32.toInt64 p1), .long (0 : Int64), .long (8 : Int64)]) (rest := []) (wc := ([] : va_W)) hx hb hml hown hts hK hA hl hS (c_X9_in l D cI cB cZ (Int32.toInt64 p1) (0 : Int64) (8 : Int64) _ _ hq1) (va_cwS 3 hts gX9_count_X9_in rfl rfl rfl (by decide +kernel) ⟨Nat.le_of_ble_eq_true rfl, Nat.le_of_ble_eq_true rfl⟩) [] rfl rfl rfl rfl (Nat.le_of_ble_eq_true rfl) dX9_count_6 (fun H locs hS => ?_)
  refine lv_if_eq (tgt := 20) hx hb dX9_count_9 (by decide) (fun c2 => ?_) (fun c2 => ?_)
  · replace h := s_yes c2 h
    refine lv_aload_n hx hb dX9_count_20 rfl (lv_at hl 0 rfl) ?_
    refine lv_bipush (v := (-2 : Int32)) hx hb dX9_count_21 (by decide) ?_
    obtain ⟨q3, hq3, h⟩ := s_bind h
    refine r_calliV (r := q3.1) (As := [.int (-2 : Int32)]) (rest := []) (wc := (wd_X9_bad cI cB cZ a_this a_all a_kept a_isKept a_refused a_hand a_outs a_order0 a_bestOrder a_tells a_bytes a_anew a_values refused above below_ bytesLong tokenAt tokenLong token value)) (w1 := (wd_X9_bad cI cB cZ a_this a_all a_kept a_isKept a_refused a_hand a_outs a_order0 a_bestOrder a_tells a_bytes a_anew a_values q3.2 above below_ bytesLong tokenAt tokenLong token value)) (ws' := (wd_X9_count cI cB cZ a_this a_all a_kept a_isKept a_refused a_hand a_outs a_order0 a_bestOrder a_tells a_bytes a_anew a_values all q3.2 above below_ bytesLong tokenAt tokenLong token value)) hx hb hml hown hts hK hA hl hS (c_X9_bad l D cI cB cZ a_this a_all a_kept a_isKept a_refused a_hand a_outs a_order0 a_bestOrder a_tells a_bytes a_anew a_values refused above below_ bytesLong tokenAt tokenLong token value (-2 : Int32) _ _ hq3) (cwV 1 hts gX9_count_X9_bad rfl rfl rfl (by decide +kernel) ⟨Nat.le_of_ble_eq_true rfl, Nat.le_of_ble_eq_true rfl⟩) 0 rfl rfl [0, 2] rfl rfl rfl [.inr 0, .inl 1, .inr 1] rfl rfl rfl rfl (Nat.le_of_ble_eq_true rfl) dX9_count_23 (fun H locs hS => ?_)
    obtain rfl := Option.some.inj h
    exact hend _ _ _ _ dX9_count_26 hS
  replace h := s_no c2 h
  refine lv_aload_n hx hb dX9_count_12 rfl (lv_at hl 0 rfl) ?_
  refine lv_iload_n hx hb dX9_count_13 rfl (lv_at hl 1 rfl) ?_
  obtain ⟨q4, hq4, h⟩ := s_bind h
  refine u_calliV (r := q4) (As := [.int p1]) (rest := []) (wc := (wd_X9_counted cI cB cZ a_this a_all a_kept a_isKept a_refused a_hand a_outs a_order0 a_bestOrder a_tells a_bytes a_anew a_values all above below_ bytesLong tokenAt tokenLong token value)) hx hb hml hown hts hK hA hl hS (c_X9_counted l D cI cB cZ a_this a_all a_kept a_isKept a_refused a_hand a_outs a_order0 a_bestOrder a_tells a_bytes a_anew a_values all above below_ bytesLong tokenAt tokenLong token value p1 _ _ hq4) (cwV 1 hts gX9_count_X9_counted rfl rfl rfl (by decide +kernel) ⟨Nat.le_of_ble_eq_true rfl, Nat.le_of_ble_eq_true rfl⟩) 0 rfl rfl [0, 1] rfl rfl rfl rfl (Nat.le_of_ble_eq_true rfl) dX9_count_14 (fun H locs hS => ?_)
  refine lv_goto (tgt := 26) hx hb dX9_count_17 (by decide) ?_
  obtain rfl := Option.some.inj h
  exact hend _ _ _ _ dX9_count_26 hS

-- InnTurnedModel.sums(JII)J
def wd_X9_sums (cI cB cZ : ClassId) (a_this : Nat) (a_all : Nat) (a_kept : Nat) (a_isKept : Nat) (a_refused : Nat) (a_hand : Nat) (a_outs : Nat) (a_order0 : Nat) (a_bestOrder : Nat) (a_tells : Nat) (a_bytes : Nat) (a_anew : Nat) (a_values : Nat)  (all : (Nat → Int32)) (above : Int64) (below_ : Int64) (bytesLong : Int32) (tokenAt : Int32) (tokenLong : Int32) (token : Int32) (value : Int32) : va_W := [(a_this, .inr (6, [.ref a_all, .ref a_kept, .ref a_isKept, .ref a_refused, .long above, .long below_, .ref a_hand, .ref a_outs, .ref a_order0, .ref a_bestOrder, .ref a_tells, .ref a_bytes, .int bytesLong, .int tokenAt, .int tokenLong, .int token, .int value, .ref a_anew, .ref a_values])), (a_all, .inl (cI, 250, .inl all))]
abbrev rm_X9_sums : Room := { frames := 0, cells := 0, slots := 0, locals := 0 }
set_option maxRecDepth 20000 in
theorem inX9_X9_sums : ∀ w ∈ u_ws RX9 TX9 19, w ∈ wsX9_sums := by decide +kernel
def f_X9_sums_b6  (all : (Nat → Int32)) : Nat → Int32 → Int32 → Int64 → Int32 → Option (Int64)
  | 0, _, _, _, _ => none
  | fu + 1, l3, l4, l5, l7 => (if l4 ≤ l7 then some (l5) else (if ¬ ((l3 + l7) < 0 ∨ 250 ≤ (Int32.toNatClampNeg (l3 + l7))) then (f_X9_sums_b6 all fu) l3 l4 (((31 : Int64) * l5) + (Int32.toInt64 (all (Int32.toNatClampNeg (l3 + l7))))) (l7 + (1 : Int32)) else none))
set_option maxHeartbeats 4000000 in
set_option maxRecDepth 100000 in
theorem w_X9_sums_b6 {p : Program} {l : Launch} {e : Env} {s : State} {m : MethodId} {args : Array Value} {below : List Frame} {meth : Method} {c : Code} {A : Nat → Prop} {Q : State → Prop} {D : va_G} {cI cB cZ : ClassId} {a_this a_all a_kept a_isKept a_refused a_hand a_outs a_order0 a_bestOrder a_tells a_bytes a_anew a_values : Nat} {all : (Nat → Int32)} {above : Int64} {below_ : Int64} {bytesLong : Int32} {tokenAt : Int32} {tokenLong : Int32} {token : Int32} {value : Int32} (C0 : Cx p s m args c cX9_sums 8 RX9 wsX9_sums D (s_tys cI cB cZ) A) {rv : Int64} (hend : ∀ (pc : Nat) (H : Heap) (locs : List Loc) (ls : Array Slot), decode cX9_sums pc = .ok (.lreturn, 1) → sS D vwCl A s.heap (wd_X9_sums cI cB cZ a_this a_all a_kept a_isKept a_refused a_hand a_outs a_order0 a_bestOrder a_tells a_bytes a_anew a_values all above below_ bytesLong tokenAt tokenLong token value) H locs → W p l e rm_X9_sums s m args below meth c H locs 0 0 Q (F0 m pc ls [.long rv])) : ∀ (fu : Nat)  (l3 : Int32) (l4 : Int32) (l5 : Int64) (l7 : Int32) (H : Heap) (locs : List Loc) (ls : Array Slot), f_X9_sums_b6 all fu l3 l4 l5 l7 = some rv → sS D vwCl A s.heap (wd_X9_sums cI cB cZ a_this a_all a_kept a_isKept a_refused a_hand a_outs a_order0 a_bestOrder a_tells a_bytes a_anew a_values all above below_ bytesLong tokenAt tokenLong token value) H locs → lv_has ls 8 [(0, .ref a_this), (3, .int l3), (4, .int l4), (5, .long l5), (7, .int l7)] → W p l e rm_X9_sums s m args below meth c H locs 0 0 Q (F0 m 6 ls []) := by
  obtain ⟨hx, hb, hml, hown, hts, hK, hA⟩ := id C0
  have inX9 : ∀ w ∈ u_ws RX9 TX9 19, w ∈ wsX9_sums := inX9_X9_sums
  intro fu
  induction fu with
  | zero => intro l3 l4 l5 l7 H locs ls h; cases h
  | succ fu ih =>
    intro l3 l4 l5 l7 H locs ls h hS hl
    rw [f_X9_sums_b6] at h
    refine lv_iload hx hb dX9_sums_6 (lv_at hl 4 rfl) ?_
    refine lv_iload hx hb dX9_sums_8 (lv_at hl 2 rfl) ?_
    refine lv_icmp_ge (tgt := 38) hx hb dX9_sums_10 (by decide) (fun c1 => ?_) (fun c1 => ?_)
    · replace h := s_yes c1 h
      refine lv_lload hx hb dX9_sums_38 (lv_at hl 3 rfl) ?_
      obtain rfl := Option.some.inj h
      exact hend _ _ _ _ dX9_sums_40 hS
    replace h := s_no c1 h
    refine lv_ldc2 (v := (31 : Int64)) hx hb hown (hts (.constantLong RX9 290 (31)) (List.mem_of_getElem? (i := 1) rfl)) dX9_sums_13 ?_
    refine lv_lload hx hb dX9_sums_16 (lv_at hl 3 rfl) ?_
    refine lv_lmul hx hb dX9_sums_18 ?_
    refine lv_aload_n hx hb dX9_sums_19 rfl (lv_at hl 0 rfl) ?_
    refine s_get (C := RX9) (T := TX9) (N := 19) hx hb hts inX9 hown hK hS 0 rfl rfl 0 (by decide) (hts (.fieldLink RX9 7 "InnTurnedModel" "all" "[I") (List.mem_of_getElem? (i := 2) rfl)) rfl rfl dX9_sums_20 ?_
    refine lv_iload_n hx hb dX9_sums_23 rfl (lv_at hl 1 rfl) ?_
    refine lv_iload hx hb dX9_sums_24 (lv_at hl 4 rfl) ?_
    refine lv_iadd hx hb dX9_sums_26 ?_
    obtain ⟨g2, h⟩ := s_guard h
    refine s_iald hx hb hK hS 1 rfl rfl g2 dX9_sums_27 ?_
    refine lv_i2l (v := (Int32.toInt64 (all (Int32.toNatClampNeg (l3 + l7))))) hx hb dX9_sums_28 rfl ?_
    refine lv_ladd hx hb dX9_sums_29 ?_
    refine lv_lstore (lv' := [(5, .long (((31 : Int64) * l5) + (Int32.toInt64 (all (Int32.toNatClampNeg (l3 + l7)))))), (0, .ref a_this), (3, .int l3), (4, .int l4), (7, .int l7)]) hx hb dX9_sums_30 hl (by decide) rfl (fun ls hl => ?_)
    refine lv_iinc (v := (l7 + (1 : Int32))) (lv' := [(7, .int (l7 + (1 : Int32))), (5, .long (((31 : Int64) * l5) + (Int32.toInt64 (all (Int32.toNatClampNeg (l3 + l7)))))), (0, .ref a_this), (3, .int l3), (4, .int l4)]) hx hb dX9_sums_32 hl (k := 4) rfl rfl (by decide) rfl (fun ls hl => ?_)
    refine lv_goto (tgt := 6) hx hb dX9_sums_35 (by decide) ?_
    exact ih l3 l4 (((31 : Int64) * l5) + (Int32.toInt64 (all (Int32.toNatClampNeg (l3 + l7))))) (l7 + (1 : Int32)) _ _ _ h hS (lv_sub hl [2, 3, 4, 1, 0] rfl)
def f_X9_sums  (all : (Nat → Int32))  (p1 : Int64) (p2 : Int32) (p3 : Int32) : Option (Int64) := f_X9_sums_b6  all s_fuel p2 p3 p1 (0 : Int32)
set_option maxHeartbeats 4000000 in
set_option maxRecDepth 100000 in
theorem c_X9_sums (l : Launch) (D : va_G) (cI cB cZ : ClassId) (a_this : Nat) (a_all : Nat) (a_kept : Nat) (a_isKept : Nat) (a_refused : Nat) (a_hand : Nat) (a_outs : Nat) (a_order0 : Nat) (a_bestOrder : Nat) (a_tells : Nat) (a_bytes : Nat) (a_anew : Nat) (a_values : Nat) (all : (Nat → Int32)) (above : Int64) (below_ : Int64) (bytesLong : Int32) (tokenAt : Int32) (tokenLong : Int32) (token : Int32) (value : Int32) (p1 : Int64) (p2 : Int32) (p3 : Int32) (rv : Int64) (sz : Nat) (hf : f_X9_sums all p1 p2 p3 = some rv) : Met l yX9_sums wsX9_sums rm_X9_sums (sPc D vwCl (s_tys cI cB cZ) [.ref a_this, .long p1, .int p2, .int p3] (wd_X9_sums cI cB cZ a_this a_all a_kept a_isKept a_refused a_hand a_outs a_order0 a_bestOrder a_tells a_bytes a_anew a_values all above below_ bytesLong tokenAt tokenLong token value) sz) (sQl D vwCl (wd_X9_sums cI cB cZ a_this a_all a_kept a_isKept a_refused a_hand a_outs a_order0 a_bestOrder a_tells a_bytes a_anew a_values all above below_ bytesLong tokenAt tokenLong token value) (wd_X9_sums cI cB cZ a_this a_all a_kept a_isKept a_refused a_hand a_outs a_order0 a_bestOrder a_tells a_bytes a_anew a_values all above below_ bytesLong tokenAt tokenLong token value) sz rv) 0 0 (va_A (wd_X9_sums cI cB cZ a_this a_all a_kept a_isKept a_refused a_hand a_outs a_order0 a_bestOrder a_tells a_bytes a_anew a_values all above below_ bytesLong tokenAt tokenLong token value) sz) := by
  refine s_enter_l (cc := cX9_sums) (nL := 8) (r := rv) (by decide) rfl (Nat.le_of_ble_eq_true rfl) ?_
  intro p e s m args below meth c A Q C0 hend ls hl hS
  have h := hf
  clear hf
  replace hl : lv_has ls 8 [(0, .ref a_this), (1, .long p1), (3, .int p2), (4, .int p3)] := hl
  unfold f_X9_sums at h
  obtain ⟨hx, hb, hml, hown, hts, hK, hA⟩ := id C0
  have inX9 : ∀ w ∈ u_ws RX9 TX9 19, w ∈ wsX9_sums := inX9_X9_sums
  refine lv_lload_n hx hb dX9_sums_0 rfl (lv_at hl 1 rfl) ?_
  refine lv_lstore (lv' := [(5, .long p1), (0, .ref a_this), (1, .long p1), (3, .int p2), (4, .int p3)]) hx hb dX9_sums_1 hl (by decide) rfl (fun ls hl => ?_)
  refine lv_iconst (v := (0 : Int32)) hx hb dX9_sums_3 (by decide) ?_
  refine lv_istore (lv' := [(7, .int (0 : Int32)), (5, .long p1), (0, .ref a_this), (1, .long p1), (3, .int p2), (4, .int p3)]) hx hb dX9_sums_4 hl (by decide) rfl (fun ls hl => ?_)
  exact w_X9_sums_b6 C0 hend  s_fuel p2 p3 p1 (0 : Int32) _ _ _ h hS (lv_sub hl [2, 4, 5, 1, 0] rfl)

-- InnTurnedModel.digest()J
def wd_X9_digest (cI cB cZ : ClassId) (a_this : Nat) (a_all : Nat) (a_kept : Nat) (a_isKept : Nat) (a_refused : Nat) (a_hand : Nat) (a_outs : Nat) (a_order0 : Nat) (a_bestOrder : Nat) (a_tells : Nat) (a_bytes : Nat) (a_anew : Nat) (a_values : Nat)  (all : (Nat → Int32)) (above : Int64) (below_ : Int64) (bytesLong : Int32) (tokenAt : Int32) (tokenLong : Int32) (token : Int32) (value : Int32) : va_W := [(a_this, .inr (6, [.ref a_all, .ref a_kept, .ref a_isKept, .ref a_refused, .long above, .long below_, .ref a_hand, .ref a_outs, .ref a_order0, .ref a_bestOrder, .ref a_tells, .ref a_bytes, .int bytesLong, .int tokenAt, .int tokenLong, .int token, .int value, .ref a_anew, .ref a_values])), (a_all, .inl (cI, 250, .inl all))]
abbrev rm_X9_digest : Room := { frames := 3, cells := 0, slots := 0, locals := 68 }
set_option maxRecDepth 20000 in
theorem inX9_X9_digest : ∀ w ∈ u_ws RX9 TX9 19, w ∈ wsX9_digest := by decide +kernel
def f_X9_digest_b80 (k_b69 : Int64 → Int32 → Option (Int64))  (all : (Nat → Int32)) (above : Int64) (below_ : Int64) (bytesLong : Int32) : Nat → Int64 → Int32 → Int32 → Option (Int64)
  | 0, _, _, _ => none
  | fu + 1, l1, l3, l4 => (if (4 : Int32) ≤ l4 then k_b69 l1 (l3 + (1 : Int32)) else ((f_X9_toldOf all l3 l4).bind fun q2 => (f_X9_digest_b80 k_b69 all above below_ bytesLong fu) (((31 : Int64) * l1) + (Int32.toInt64 q2)) l3 (l4 + (1 : Int32))))
set_option maxHeartbeats 4000000 in
set_option maxRecDepth 100000 in
theorem w_X9_digest_b80 {p : Program} {l : Launch} {e : Env} {s : State} {m : MethodId} {args : Array Value} {below : List Frame} {meth : Method} {c : Code} {A : Nat → Prop} {Q : State → Prop} {D : va_G} {cI cB cZ : ClassId} {a_this a_all a_kept a_isKept a_refused a_hand a_outs a_order0 a_bestOrder a_tells a_bytes a_anew a_values : Nat} {all : (Nat → Int32)} {above : Int64} {below_ : Int64} {bytesLong : Int32} {tokenAt : Int32} {tokenLong : Int32} {token : Int32} {value : Int32} (C0 : Cx p s m args c cX9_digest 5 RX9 wsX9_digest D (s_tys cI cB cZ) A) {rv : Int64} (hend : ∀ (pc : Nat) (H : Heap) (locs : List Loc) (ls : Array Slot), decode cX9_digest pc = .ok (.lreturn, 1) → sS D vwCl A s.heap (wd_X9_digest cI cB cZ a_this a_all a_kept a_isKept a_refused a_hand a_outs a_order0 a_bestOrder a_tells a_bytes a_anew a_values all above below_ bytesLong tokenAt tokenLong token value) H locs → W p l e rm_X9_digest s m args below meth c H locs 0 0 Q (F0 m pc ls [.long rv])) (k_b69 : Int64 → Int32 → Option (Int64)) (hk_b69 : ∀  (l1 : Int64) (l3 : Int32) (H : Heap) (locs : List Loc) (ls : Array Slot), k_b69 l1 l3 = some rv → sS D vwCl A s.heap (wd_X9_digest cI cB cZ a_this a_all a_kept a_isKept a_refused a_hand a_outs a_order0 a_bestOrder a_tells a_bytes a_anew a_values all above below_ bytesLong tokenAt tokenLong token value) H locs → lv_has ls 5 [(0, .ref a_this), (1, .long l1), (3, .int l3)] → W p l e rm_X9_digest s m args below meth c H locs 0 0 Q (F0 m 69 ls [])) : ∀ (fu : Nat)  (l1 : Int64) (l3 : Int32) (l4 : Int32) (H : Heap) (locs : List Loc) (ls : Array Slot), f_X9_digest_b80 k_b69 all above below_ bytesLong fu l1 l3 l4 = some rv → sS D vwCl A s.heap (wd_X9_digest cI cB cZ a_this a_all a_kept a_isKept a_refused a_hand a_outs a_order0 a_bestOrder a_tells a_bytes a_anew a_values all above below_ bytesLong tokenAt tokenLong token value) H locs → lv_has ls 5 [(0, .ref a_this), (1, .long l1), (3, .int l3), (4, .int l4)] → W p l e rm_X9_digest s m args below meth c H locs 0 0 Q (F0 m 80 ls []) := by
  obtain ⟨hx, hb, hml, hown, hts, hK, hA⟩ := id C0
  have inX9 : ∀ w ∈ u_ws RX9 TX9 19, w ∈ wsX9_digest := inX9_X9_digest
  intro fu
  induction fu with
  | zero => intro l1 l3 l4 H locs ls h; cases h
  | succ fu ih =>
    intro l1 l3 l4 H locs ls h hS hl
    rw [f_X9_digest_b80] at h
    refine lv_iload hx hb dX9_digest_80 (lv_at hl 3 rfl) ?_
    refine lv_iconst (v := (4 : Int32)) hx hb dX9_digest_82 (by decide) ?_
    refine lv_icmp_ge (tgt := 107) hx hb dX9_digest_83 (by decide) (fun c1 => ?_) (fun c1 => ?_)
    · replace h := s_yes c1 h
      refine lv_iinc (v := (l3 + (1 : Int32))) (lv' := [(3, .int (l3 + (1 : Int32))), (0, .ref a_this), (1, .long l1), (4, .int l4)]) hx hb dX9_digest_107 hl (k := 2) rfl rfl (by decide) rfl (fun ls hl => ?_)
      refine lv_goto (tgt := 69) hx hb dX9_digest_110 (by decide) ?_
      exact hk_b69 l1 (l3 + (1 : Int32)) _ _ _ h hS (lv_sub hl [1, 2, 0] rfl)
    replace h := s_no c1 h
    refine lv_ldc2 (v := (31 : Int64)) hx hb hown (hts (.constantLong RX9 290 (31)) (List.mem_of_getElem? (i := 2) rfl)) dX9_digest_86 ?_
    refine lv_lload_n hx hb dX9_digest_89 rfl (lv_at hl 1 rfl) ?_
    refine lv_lmul hx hb dX9_digest_90 ?_
    refine lv_aload_n hx hb dX9_digest_91 rfl (lv_at hl 0 rfl) ?_
    refine lv_iload_n hx hb dX9_digest_92 rfl (lv_at hl 2 rfl) ?_
    refine lv_iload hx hb dX9_digest_93 (lv_at hl 3 rfl) ?_
    obtain ⟨q2, hq2, h⟩ := s_bind h
    refine u_calliV (r := q2) (As := [.int l3, .int l4]) (rest := [.long ((31 : Int64) * l1)]) (wc := (wd_X9_toldOf cI cB cZ a_this a_all a_kept a_isKept a_refused a_hand a_outs a_order0 a_bestOrder a_tells a_bytes a_anew a_values all above below_ bytesLong tokenAt tokenLong token value)) hx hb hml hown hts hK hA hl hS (c_X9_toldOf l D cI cB cZ a_this a_all a_kept a_isKept a_refused a_hand a_outs a_order0 a_bestOrder a_tells a_bytes a_anew a_values all above below_ bytesLong tokenAt tokenLong token value l3 l4 _ _ hq2) (cwV 2 hts gX9_digest_X9_toldOf rfl rfl rfl (by decide +kernel) ⟨Nat.le_of_ble_eq_true rfl, Nat.le_of_ble_eq_true rfl⟩) 0 rfl rfl [0, 1] rfl rfl rfl rfl (Nat.le_of_ble_eq_true rfl) dX9_digest_95 (fun H locs hS => ?_)
    refine lv_i2l (v := (Int32.toInt64 q2)) hx hb dX9_digest_98 rfl ?_
    refine lv_ladd hx hb dX9_digest_99 ?_
    refine lv_lstore_n (lv' := [(1, .long (((31 : Int64) * l1) + (Int32.toInt64 q2))), (0, .ref a_this), (3, .int l3), (4, .int l4)]) hx hb dX9_digest_100 rfl hl (by decide) rfl (fun ls hl => ?_)
    refine lv_iinc (v := (l4 + (1 : Int32))) (lv' := [(4, .int (l4 + (1 : Int32))), (1, .long (((31 : Int64) * l1) + (Int32.toInt64 q2))), (0, .ref a_this), (3, .int l3)]) hx hb dX9_digest_101 hl (k := 3) rfl rfl (by decide) rfl (fun ls hl => ?_)
    refine lv_goto (tgt := 80) hx hb dX9_digest_104 (by decide) ?_
    exact ih (((31 : Int64) * l1) + (Int32.toInt64 q2)) l3 (l4 + (1 : Int32)) _ _ _ h hS (lv_sub hl [2, 1, 3, 0] rfl)
def f_X9_digest_b69  (all : (Nat → Int32)) (above : Int64) (below_ : Int64) (bytesLong : Int32) : Nat → Int64 → Int32 → Option (Int64)
  | 0, _, _ => none
  | fu + 1, l1, l3 => ((f_X9_many all).bind fun q3 => (if q3 ≤ l3 then ((f_X9_sums all l1 (38 : Int32) ((4 : Int32) * (all (Int32.toNatClampNeg (1 : Int32))))).bind fun q5 => ((f_X9_sums all q5 (58 : Int32) ((5 : Int32) * (all (Int32.toNatClampNeg (2 : Int32))))).bind fun q6 => ((f_X9_sums all q6 (88 : Int32) ((3 : Int32) * (all (Int32.toNatClampNeg (3 : Int32))))).bind fun q7 => some ((((31 : Int64) * (((31 : Int64) * q7) + above)) + below_))))) else f_X9_digest_b80 (f_X9_digest_b69 all above below_ bytesLong fu) all above below_ bytesLong s_fuel l1 l3 (0 : Int32)))
set_option maxHeartbeats 4000000 in
set_option maxRecDepth 100000 in
theorem w_X9_digest_b69 {p : Program} {l : Launch} {e : Env} {s : State} {m : MethodId} {args : Array Value} {below : List Frame} {meth : Method} {c : Code} {A : Nat → Prop} {Q : State → Prop} {D : va_G} {cI cB cZ : ClassId} {a_this a_all a_kept a_isKept a_refused a_hand a_outs a_order0 a_bestOrder a_tells a_bytes a_anew a_values : Nat} {all : (Nat → Int32)} {above : Int64} {below_ : Int64} {bytesLong : Int32} {tokenAt : Int32} {tokenLong : Int32} {token : Int32} {value : Int32} (C0 : Cx p s m args c cX9_digest 5 RX9 wsX9_digest D (s_tys cI cB cZ) A) {rv : Int64} (hend : ∀ (pc : Nat) (H : Heap) (locs : List Loc) (ls : Array Slot), decode cX9_digest pc = .ok (.lreturn, 1) → sS D vwCl A s.heap (wd_X9_digest cI cB cZ a_this a_all a_kept a_isKept a_refused a_hand a_outs a_order0 a_bestOrder a_tells a_bytes a_anew a_values all above below_ bytesLong tokenAt tokenLong token value) H locs → W p l e rm_X9_digest s m args below meth c H locs 0 0 Q (F0 m pc ls [.long rv])) : ∀ (fu : Nat)  (l1 : Int64) (l3 : Int32) (H : Heap) (locs : List Loc) (ls : Array Slot), f_X9_digest_b69 all above below_ bytesLong fu l1 l3 = some rv → sS D vwCl A s.heap (wd_X9_digest cI cB cZ a_this a_all a_kept a_isKept a_refused a_hand a_outs a_order0 a_bestOrder a_tells a_bytes a_anew a_values all above below_ bytesLong tokenAt tokenLong token value) H locs → lv_has ls 5 [(0, .ref a_this), (1, .long l1), (3, .int l3)] → W p l e rm_X9_digest s m args below meth c H locs 0 0 Q (F0 m 69 ls []) := by
  obtain ⟨hx, hb, hml, hown, hts, hK, hA⟩ := id C0
  have inX9 : ∀ w ∈ u_ws RX9 TX9 19, w ∈ wsX9_digest := inX9_X9_digest
  intro fu
  induction fu with
  | zero => intro l1 l3 H locs ls h; cases h
  | succ fu ih =>
    intro l1 l3 H locs ls h hS hl
    rw [f_X9_digest_b69] at h
    refine lv_iload_n hx hb dX9_digest_69 rfl (lv_at hl 2 rfl) ?_
    refine lv_aload_n hx hb dX9_digest_70 rfl (lv_at hl 0 rfl) ?_
    obtain ⟨q3, hq3, h⟩ := s_bind h
    refine u_calliV (r := q3) (As := []) (rest := [.int l3]) (wc := (wd_X9_many cI cB cZ a_this a_all a_kept a_isKept a_refused a_hand a_outs a_order0 a_bestOrder a_tells a_bytes a_anew a_values all above below_ bytesLong tokenAt tokenLong token value)) hx hb hml hown hts hK hA hl hS (c_X9_many l D cI cB cZ a_this a_all a_kept a_isKept a_refused a_hand a_outs a_order0 a_bestOrder a_tells a_bytes a_anew a_values all above below_ bytesLong tokenAt tokenLong token value _ _ hq3) (cwV 0 hts gX9_digest_X9_many rfl rfl rfl (by decide +kernel) ⟨Nat.le_of_ble_eq_true rfl, Nat.le_of_ble_eq_true rfl⟩) 0 rfl rfl [0, 1] rfl rfl rfl rfl (Nat.le_of_ble_eq_true rfl) dX9_digest_71 (fun H locs hS => ?_)
    refine lv_icmp_ge (tgt := 113) hx hb dX9_digest_74 (by decide) (fun c4 => ?_) (fun c4 => ?_)
    · replace h := s_yes c4 h
      refine lv_aload_n hx hb dX9_digest_113 rfl (lv_at hl 0 rfl) ?_
      refine lv_lload_n hx hb dX9_digest_114 rfl (lv_at hl 1 rfl) ?_
      refine lv_bipush (v := (38 : Int32)) hx hb dX9_digest_115 (by decide) ?_
      refine lv_iconst (v := (4 : Int32)) hx hb dX9_digest_117 (by decide) ?_
      refine lv_aload_n hx hb dX9_digest_118 rfl (lv_at hl 0 rfl) ?_
      refine s_get (C := RX9) (T := TX9) (N := 19) hx hb hts inX9 hown hK hS 0 rfl rfl 0 (by decide) (hts (.fieldLink RX9 7 "InnTurnedModel" "all" "[I") (List.mem_of_getElem? (i := 3) rfl)) rfl rfl dX9_digest_119 ?_
      refine lv_iconst (v := (1 : Int32)) hx hb dX9_digest_122 (by decide) ?_
      refine s_iald hx hb hK hS 1 rfl rfl (by decide) dX9_digest_123 ?_
      refine lv_imul hx hb dX9_digest_124 ?_
      obtain ⟨q5, hq5, h⟩ := s_bind h
      refine u_calllV (r := q5) (As := [.long l1, .int (38 : Int32), .int ((4 : Int32) * (all (Int32.toNatClampNeg (1 : Int32))))]) (rest := []) (wc := (wd_X9_sums cI cB cZ a_this a_all a_kept a_isKept a_refused a_hand a_outs a_order0 a_bestOrder a_tells a_bytes a_anew a_values all above below_ bytesLong tokenAt tokenLong token value)) hx hb hml hown hts hK hA hl hS (c_X9_sums l D cI cB cZ a_this a_all a_kept a_isKept a_refused a_hand a_outs a_order0 a_bestOrder a_tells a_bytes a_anew a_values all above below_ bytesLong tokenAt tokenLong token value l1 (38 : Int32) ((4 : Int32) * (all (Int32.toNatClampNeg (1 : Int32)))) _ _ hq5) (cwV 3 hts gX9_digest_X9_sums rfl rfl rfl (by decide +kernel) ⟨Nat.le_of_ble_eq_true rfl, Nat.le_of_ble_eq_true rfl⟩) 0 rfl rfl [0, 1] rfl rfl rfl rfl (Nat.le_of_ble_eq_true rfl) dX9_digest_125 (fun H locs hS => ?_)
      refine lv_lstore_n (lv' := [(1, .long q5), (0, .ref a_this), (3, .int l3)]) hx hb dX9_digest_128 rfl hl (by decide) rfl (fun ls hl => ?_)
      refine lv_aload_n hx hb dX9_digest_129 rfl (lv_at hl 1 rfl) ?_
      refine lv_lload_n hx hb dX9_digest_130 rfl (lv_at hl 0 rfl) ?_
      refine lv_bipush (v := (58 : Int32)) hx hb dX9_digest_131 (by decide) ?_
      refine lv_iconst (v := (5 : Int32)) hx hb dX9_digest_133 (by decide) ?_
      refine lv_aload_n hx hb dX9_digest_134 rfl (lv_at hl 1 rfl) ?_
      refine s_get (C := RX9) (T := TX9) (N := 19) hx hb hts inX9 hown hK hS 0 rfl rfl 0 (by decide) (hts (.fieldLink RX9 7 "InnTurnedModel" "all" "[I") (List.mem_of_getElem? (i := 3) rfl)) rfl rfl dX9_digest_135 ?_
      refine lv_iconst (v := (2 : Int32)) hx hb dX9_digest_138 (by decide) ?_
      refine s_iald hx hb hK hS 1 rfl rfl (by decide) dX9_digest_139 ?_
      refine lv_imul hx hb dX9_digest_140 ?_
      obtain ⟨q6, hq6, h⟩ := s_bind h
      refine u_calllV (r := q6) (As := [.long q5, .int (58 : Int32), .int ((5 : Int32) * (all (Int32.toNatClampNeg (2 : Int32))))]) (rest := []) (wc := (wd_X9_sums cI cB cZ a_this a_all a_kept a_isKept a_refused a_hand a_outs a_order0 a_bestOrder a_tells a_bytes a_anew a_values all above below_ bytesLong tokenAt tokenLong token value)) hx hb hml hown hts hK hA hl hS (c_X9_sums l D cI cB cZ a_this a_all a_kept a_isKept a_refused a_hand a_outs a_order0 a_bestOrder a_tells a_bytes a_anew a_values all above below_ bytesLong tokenAt tokenLong token value q5 (58 : Int32) ((5 : Int32) * (all (Int32.toNatClampNeg (2 : Int32)))) _ _ hq6) (cwV 3 hts gX9_digest_X9_sums rfl rfl rfl (by decide +kernel) ⟨Nat.le_of_ble_eq_true rfl, Nat.le_of_ble_eq_true rfl⟩) 0 rfl rfl [0, 1] rfl rfl rfl rfl (Nat.le_of_ble_eq_true rfl) dX9_digest_141 (fun H locs hS => ?_)
      refine lv_lstore_n (lv' := [(1, .long q6), (0, .ref a_this), (3, .int l3)]) hx hb dX9_digest_144 rfl hl (by decide) rfl (fun ls hl => ?_)
      refine lv_aload_n hx hb dX9_digest_145 rfl (lv_at hl 1 rfl) ?_
      refine lv_lload_n hx hb dX9_digest_146 rfl (lv_at hl 0 rfl) ?_
      refine lv_bipush (v := (88 : Int32)) hx hb dX9_digest_147 (by decide) ?_
      refine lv_iconst (v := (3 : Int32)) hx hb dX9_digest_149 (by decide) ?_
      refine lv_aload_n hx hb dX9_digest_150 rfl (lv_at hl 1 rfl) ?_
      refine s_get (C := RX9) (T := TX9) (N := 19) hx hb hts inX9 hown hK hS 0 rfl rfl 0 (by decide) (hts (.fieldLink RX9 7 "InnTurnedModel" "all" "[I") (List.mem_of_getElem? (i := 3) rfl)) rfl rfl dX9_digest_151 ?_
      refine lv_iconst (v := (3 : Int32)) hx hb dX9_digest_154 (by decide) ?_
      refine s_iald hx hb hK hS 1 rfl rfl (by decide) dX9_digest_155 ?_
      refine lv_imul hx hb dX9_digest_156 ?_
      obtain ⟨q7, hq7, h⟩ := s_bind h
      refine u_calllV (r := q7) (As := [.long q6, .int (88 : Int32), .int ((3 : Int32) * (all (Int32.toNatClampNeg (3 : Int32))))]) (rest := []) (wc := (wd_X9_sums cI cB cZ a_this a_all a_kept a_isKept a_refused a_hand a_outs a_order0 a_bestOrder a_tells a_bytes a_anew a_values all above below_ bytesLong tokenAt tokenLong token value)) hx hb hml hown hts hK hA hl hS (c_X9_sums l D cI cB cZ a_this a_all a_kept a_isKept a_refused a_hand a_outs a_order0 a_bestOrder a_tells a_bytes a_anew a_values all above below_ bytesLong tokenAt tokenLong token value q6 (88 : Int32) ((3 : Int32) * (all (Int32.toNatClampNeg (3 : Int32)))) _ _ hq7) (cwV 3 hts gX9_digest_X9_sums rfl rfl rfl (by decide +kernel) ⟨Nat.le_of_ble_eq_true rfl, Nat.le_of_ble_eq_true rfl⟩) 0 rfl rfl [0, 1] rfl rfl rfl rfl (Nat.le_of_ble_eq_true rfl) dX9_digest_157 (fun H locs hS => ?_)
      refine lv_lstore_n (lv' := [(1, .long q7), (0, .ref a_this), (3, .int l3)]) hx hb dX9_digest_160 rfl hl (by decide) rfl (fun ls hl => ?_)
      refine lv_ldc2 (v := (31 : Int64)) hx hb hown (hts (.constantLong RX9 290 (31)) (List.mem_of_getElem? (i := 2) rfl)) dX9_digest_161 ?_
      refine lv_ldc2 (v := (31 : Int64)) hx hb hown (hts (.constantLong RX9 290 (31)) (List.mem_of_getElem? (i := 2) rfl)) dX9_digest_164 ?_
      refine lv_lload_n hx hb dX9_digest_167 rfl (lv_at hl 0 rfl) ?_
      refine lv_lmul hx hb dX9_digest_168 ?_
      refine lv_aload_n hx hb dX9_digest_169 rfl (lv_at hl 1 rfl) ?_
      refine s_get (C := RX9) (T := TX9) (N := 19) hx hb hts inX9 hown hK hS 0 rfl rfl 4 (by decide) (hts (.fieldLink RX9 193 "InnTurnedModel" "above" "J") (List.mem_of_getElem? (i := 4) rfl)) rfl rfl dX9_digest_170 ?_
      refine lv_ladd hx hb dX9_digest_173 ?_
      refine lv_lmul hx hb dX9_digest_174 ?_
      refine lv_aload_n hx hb dX9_digest_175 rfl (lv_at hl 1 rfl) ?_
      refine s_get (C := RX9) (T := TX9) (N := 19) hx hb hts inX9 hown hK hS 0 rfl rfl 5 (by decide) (hts (.fieldLink RX9 23 "InnTurnedModel" "below" "J") (List.mem_of_getElem? (i := 5) rfl)) rfl rfl dX9_digest_176 ?_
      refine lv_ladd hx hb dX9_digest_179 ?_
      obtain rfl := Option.some.inj h
      exact hend _ _ _ _ dX9_digest_180 hS
    replace h := s_no c4 h
    refine lv_iconst (v := (0 : Int32)) hx hb dX9_digest_77 (by decide) ?_
    refine lv_istore (lv' := [(4, .int (0 : Int32)), (0, .ref a_this), (1, .long l1), (3, .int l3)]) hx hb dX9_digest_78 hl (by decide) rfl (fun ls hl => ?_)
    exact w_X9_digest_b80 C0 hend (f_X9_digest_b69 all above below_ bytesLong fu) ih s_fuel l1 l3 (0 : Int32) _ _ _ h hS (lv_sub hl [1, 2, 3, 0] rfl)
def f_X9_digest_b33  (all : (Nat → Int32)) (above : Int64) (below_ : Int64) (bytesLong : Int32) : Nat → Int64 → Int32 → Option (Int64)
  | 0, _, _ => none
  | fu + 1, l1, l3 => (if (4 : Int32) ≤ l3 then ((f_X9_sums all l1 (25 : Int32) (6 : Int32)).bind fun q9 => f_X9_digest_b69  all above below_ bytesLong s_fuel q9 (0 : Int32)) else ((f_X9_toldNow all l3).bind fun q10 => (f_X9_digest_b33 all above below_ bytesLong fu) (((31 : Int64) * l1) + (Int32.toInt64 q10)) (l3 + (1 : Int32))))
set_option maxHeartbeats 4000000 in
set_option maxRecDepth 100000 in
theorem w_X9_digest_b33 {p : Program} {l : Launch} {e : Env} {s : State} {m : MethodId} {args : Array Value} {below : List Frame} {meth : Method} {c : Code} {A : Nat → Prop} {Q : State → Prop} {D : va_G} {cI cB cZ : ClassId} {a_this a_all a_kept a_isKept a_refused a_hand a_outs a_order0 a_bestOrder a_tells a_bytes a_anew a_values : Nat} {all : (Nat → Int32)} {above : Int64} {below_ : Int64} {bytesLong : Int32} {tokenAt : Int32} {tokenLong : Int32} {token : Int32} {value : Int32} (C0 : Cx p s m args c cX9_digest 5 RX9 wsX9_digest D (s_tys cI cB cZ) A) {rv : Int64} (hend : ∀ (pc : Nat) (H : Heap) (locs : List Loc) (ls : Array Slot), decode cX9_digest pc = .ok (.lreturn, 1) → sS D vwCl A s.heap (wd_X9_digest cI cB cZ a_this a_all a_kept a_isKept a_refused a_hand a_outs a_order0 a_bestOrder a_tells a_bytes a_anew a_values all above below_ bytesLong tokenAt tokenLong token value) H locs → W p l e rm_X9_digest s m args below meth c H locs 0 0 Q (F0 m pc ls [.long rv])) : ∀ (fu : Nat)  (l1 : Int64) (l3 : Int32) (H : Heap) (locs : List Loc) (ls : Array Slot), f_X9_digest_b33 all above below_ bytesLong fu l1 l3 = some rv → sS D vwCl A s.heap (wd_X9_digest cI cB cZ a_this a_all a_kept a_isKept a_refused a_hand a_outs a_order0 a_bestOrder a_tells a_bytes a_anew a_values all above below_ bytesLong tokenAt tokenLong token value) H locs → lv_has ls 5 [(0, .ref a_this), (1, .long l1), (3, .int l3)] → W p l e rm_X9_digest s m args below meth c H locs 0 0 Q (F0 m 33 ls []) := by
  obtain ⟨hx, hb, hml, hown, hts, hK, hA⟩ := id C0
  have inX9 : ∀ w ∈ u_ws RX9 TX9 19, w ∈ wsX9_digest := inX9_X9_digest
  intro fu
  induction fu with
  | zero => intro l1 l3 H locs ls h; cases h
  | succ fu ih =>
    intro l1 l3 H locs ls h hS hl
    rw [f_X9_digest_b33] at h
    refine lv_iload_n hx hb dX9_digest_33 rfl (lv_at hl 2 rfl) ?_
    refine lv_iconst (v := (4 : Int32)) hx hb dX9_digest_34 (by decide) ?_
    refine lv_icmp_ge (tgt := 57) hx hb dX9_digest_35 (by decide) (fun c8 => ?_) (fun c8 => ?_)
    · replace h := s_yes c8 h
      refine lv_aload_n hx hb dX9_digest_57 rfl (lv_at hl 0 rfl) ?_
      refine lv_lload_n hx hb dX9_digest_58 rfl (lv_at hl 1 rfl) ?_
      refine lv_bipush (v := (25 : Int32)) hx hb dX9_digest_59 (by decide) ?_
      refine lv_bipush (v := (6 : Int32)) hx hb dX9_digest_61 (by decide) ?_
      obtain ⟨q9, hq9, h⟩ := s_bind h
      refine u_calllV (r := q9) (As := [.long l1, .int (25 : Int32), .int (6 : Int32)]) (rest := []) (wc := (wd_X9_sums cI cB cZ a_this a_all a_kept a_isKept a_refused a_hand a_outs a_order0 a_bestOrder a_tells a_bytes a_anew a_values all above below_ bytesLong tokenAt tokenLong token value)) hx hb hml hown hts hK hA hl hS (c_X9_sums l D cI cB cZ a_this a_all a_kept a_isKept a_refused a_hand a_outs a_order0 a_bestOrder a_tells a_bytes a_anew a_values all above below_ bytesLong tokenAt tokenLong token value l1 (25 : Int32) (6 : Int32) _ _ hq9) (cwV 3 hts gX9_digest_X9_sums rfl rfl rfl (by decide +kernel) ⟨Nat.le_of_ble_eq_true rfl, Nat.le_of_ble_eq_true rfl⟩) 0 rfl rfl [0, 1] rfl rfl rfl rfl (Nat.le_of_ble_eq_true rfl) dX9_digest_63 (fun H locs hS => ?_)
      refine lv_lstore_n (lv' := [(1, .long q9), (0, .ref a_this), (3, .int l3)]) hx hb dX9_digest_66 rfl hl (by decide) rfl (fun ls hl => ?_)
      refine lv_iconst (v := (0 : Int32)) hx hb dX9_digest_67 (by decide) ?_
      refine lv_istore_n (lv' := [(3, .int (0 : Int32)), (1, .long q9), (0, .ref a_this)]) hx hb dX9_digest_68 rfl hl (by decide) rfl (fun ls hl => ?_)
      exact w_X9_digest_b69 C0 hend  s_fuel q9 (0 : Int32) _ _ _ h hS (lv_sub hl [2, 1, 0] rfl)
    replace h := s_no c8 h
    refine lv_ldc2 (v := (31 : Int64)) hx hb hown (hts (.constantLong RX9 290 (31)) (List.mem_of_getElem? (i := 2) rfl)) dX9_digest_38 ?_
    refine lv_lload_n hx hb dX9_digest_41 rfl (lv_at hl 1 rfl) ?_
    refine lv_lmul hx hb dX9_digest_42 ?_
    refine lv_aload_n hx hb dX9_digest_43 rfl (lv_at hl 0 rfl) ?_
    refine lv_iload_n hx hb dX9_digest_44 rfl (lv_at hl 2 rfl) ?_
    obtain ⟨q10, hq10, h⟩ := s_bind h
    refine u_calliV (r := q10) (As := [.int l3]) (rest := [.long ((31 : Int64) * l1)]) (wc := (wd_X9_toldNow cI cB cZ a_this a_all a_kept a_isKept a_refused a_hand a_outs a_order0 a_bestOrder a_tells a_bytes a_anew a_values all above below_ bytesLong tokenAt tokenLong token value)) hx hb hml hown hts hK hA hl hS (c_X9_toldNow l D cI cB cZ a_this a_all a_kept a_isKept a_refused a_hand a_outs a_order0 a_bestOrder a_tells a_bytes a_anew a_values all above below_ bytesLong tokenAt tokenLong token value l3 _ _ hq10) (cwV 1 hts gX9_digest_X9_toldNow rfl rfl rfl (by decide +kernel) ⟨Nat.le_of_ble_eq_true rfl, Nat.le_of_ble_eq_true rfl⟩) 0 rfl rfl [0, 1] rfl rfl rfl rfl (Nat.le_of_ble_eq_true rfl) dX9_digest_45 (fun H locs hS => ?_)
    refine lv_i2l (v := (Int32.toInt64 q10)) hx hb dX9_digest_48 rfl ?_
    refine lv_ladd hx hb dX9_digest_49 ?_
    refine lv_lstore_n (lv' := [(1, .long (((31 : Int64) * l1) + (Int32.toInt64 q10))), (0, .ref a_this), (3, .int l3)]) hx hb dX9_digest_50 rfl hl (by decide) rfl (fun ls hl => ?_)
    refine lv_iinc (v := (l3 + (1 : Int32))) (lv' := [(3, .int (l3 + (1 : Int32))), (1, .long (((31 : Int64) * l1) + (Int32.toInt64 q10))), (0, .ref a_this)]) hx hb dX9_digest_51 hl (k := 2) rfl rfl (by decide) rfl (fun ls hl => ?_)
    refine lv_goto (tgt := 33) hx hb dX9_digest_54 (by decide) ?_
    exact ih (((31 : Int64) * l1) + (Int32.toInt64 q10)) (l3 + (1 : Int32)) _ _ _ h hS (lv_sub hl [2, 1, 0] rfl)
def f_X9_digest_b6  (all : (Nat → Int32)) (above : Int64) (below_ : Int64) (bytesLong : Int32) : Nat → Int64 → Int32 → Option (Int64)
  | 0, _, _ => none
  | fu + 1, l1, l3 => (if (9 : Int32) ≤ l3 then f_X9_digest_b33  all above below_ bytesLong s_fuel l1 (0 : Int32) else ((f_X9_counted all bytesLong l3).bind fun q12 => (f_X9_digest_b6 all above below_ bytesLong fu) (((31 : Int64) * l1) + (Int32.toInt64 q12)) (l3 + (1 : Int32))))
set_option maxHeartbeats 4000000 in
set_option maxRecDepth 100000 in
theorem w_X9_digest_b6 {p : Program} {l : Launch} {e : Env} {s : State} {m : MethodId} {args : Array Value} {below : List Frame} {meth : Method} {c : Code} {A : Nat → Prop} {Q : State → Prop} {D : va_G} {cI cB cZ : ClassId} {a_this a_all a_kept a_isKept a_refused a_hand a_outs a_order0 a_bestOrder a_tells a_bytes a_anew a_values : Nat} {all : (Nat → Int32)} {above : Int64} {below_ : Int64} {bytesLong : Int32} {tokenAt : Int32} {tokenLong : Int32} {token : Int32} {value : Int32} (C0 : Cx p s m args c cX9_digest 5 RX9 wsX9_digest D (s_tys cI cB cZ) A) {rv : Int64} (hend : ∀ (pc : Nat) (H : Heap) (locs : List Loc) (ls : Array Slot), decode cX9_digest pc = .ok (.lreturn, 1) → sS D vwCl A s.heap (wd_X9_digest cI cB cZ a_this a_all a_kept a_isKept a_refused a_hand a_outs a_order0 a_bestOrder a_tells a_bytes a_anew a_values all above below_ bytesLong tokenAt tokenLong token value) H locs → W p l e rm_X9_digest s m args below meth c H locs 0 0 Q (F0 m pc ls [.long rv])) : ∀ (fu : Nat)  (l1 : Int64) (l3 : Int32) (H : Heap) (locs : List Loc) (ls : Array Slot), f_X9_digest_b6 all above below_ bytesLong fu l1 l3 = some rv → sS D vwCl A s.heap (wd_X9_digest cI cB cZ a_this a_all a_kept a_isKept a_refused a_hand a_outs a_order0 a_bestOrder a_tells a_bytes a_anew a_values all above below_ bytesLong tokenAt tokenLong token value) H locs → lv_has ls 5 [(0, .ref a_this), (1, .long l1), (3, .int l3)] → W p l e rm_X9_digest s m args below meth c H locs 0 0 Q (F0 m 6 ls []) := by
  obtain ⟨hx, hb, hml, hown, hts, hK, hA⟩ := id C0
  have inX9 : ∀ w ∈ u_ws RX9 TX9 19, w ∈ wsX9_digest := inX9_X9_digest
  intro fu
  induction fu with
  | zero => intro l1 l3 H locs ls h; cases h
  | succ fu ih =>
    intro l1 l3 H locs ls h hS hl
    rw [f_X9_digest_b6] at h
    refine lv_iload_n hx hb dX9_digest_6 rfl (lv_at hl 2 rfl) ?_
    refine lv_bipush (v := (9 : Int32)) hx hb dX9_digest_7 (by decide) ?_
    refine lv_icmp_ge (tgt := 31) hx hb dX9_digest_9 (by decide) (fun c11 => ?_) (fun c11 => ?_)
    · replace h := s_yes c11 h
      refine lv_iconst (v := (0 : Int32)) hx hb dX9_digest_31 (by decide) ?_
      refine lv_istore_n (lv' := [(3, .int (0 : Int32)), (0, .ref a_this), (1, .long l1)]) hx hb dX9_digest_32 rfl hl (by decide) rfl (fun ls hl => ?_)
      exact w_X9_digest_b33 C0 hend  s_fuel l1 (0 : Int32) _ _ _ h hS (lv_sub hl [1, 2, 0] rfl)
    replace h := s_no c11 h
    refine lv_ldc2 (v := (31 : Int64)) hx hb hown (hts (.constantLong RX9 290 (31)) (List.mem_of_getElem? (i := 2) rfl)) dX9_digest_12 ?_
    refine lv_lload_n hx hb dX9_digest_15 rfl (lv_at hl 1 rfl) ?_
    refine lv_lmul hx hb dX9_digest_16 ?_
    refine lv_aload_n hx hb dX9_digest_17 rfl (lv_at hl 0 rfl) ?_
    refine lv_iload_n hx hb dX9_digest_18 rfl (lv_at hl 2 rfl) ?_
    obtain ⟨q12, hq12, h⟩ := s_bind h
    refine u_calliV (r := q12) (As := [.int l3]) (rest := [.long ((31 : Int64) * l1)]) (wc := (wd_X9_counted cI cB cZ a_this a_all a_kept a_isKept a_refused a_hand a_outs a_order0 a_bestOrder a_tells a_bytes a_anew a_values all above below_ bytesLong tokenAt tokenLong token value)) hx hb hml hown hts hK hA hl hS (c_X9_counted l D cI cB cZ a_this a_all a_kept a_isKept a_refused a_hand a_outs a_order0 a_bestOrder a_tells a_bytes a_anew a_values all above below_ bytesLong tokenAt tokenLong token value l3 _ _ hq12) (cwV 1 hts gX9_digest_X9_counted rfl rfl rfl (by decide +kernel) ⟨Nat.le_of_ble_eq_true rfl, Nat.le_of_ble_eq_true rfl⟩) 0 rfl rfl [0, 1] rfl rfl rfl rfl (Nat.le_of_ble_eq_true rfl) dX9_digest_19 (fun H locs hS => ?_)
    refine lv_i2l (v := (Int32.toInt64 q12)) hx hb dX9_digest_22 rfl ?_
    refine lv_ladd hx hb dX9_digest_23 ?_
    refine lv_lstore_n (lv' := [(1, .long (((31 : Int64) * l1) + (Int32.toInt64 q12))), (0, .ref a_this), (3, .int l3)]) hx hb dX9_digest_24 rfl hl (by decide) rfl (fun ls hl => ?_)
    refine lv_iinc (v := (l3 + (1 : Int32))) (lv' := [(3, .int (l3 + (1 : Int32))), (1, .long (((31 : Int64) * l1) + (Int32.toInt64 q12))), (0, .ref a_this)]) hx hb dX9_digest_25 hl (k := 2) rfl rfl (by decide) rfl (fun ls hl => ?_)
    refine lv_goto (tgt := 6) hx hb dX9_digest_28 (by decide) ?_
    exact ih (((31 : Int64) * l1) + (Int32.toInt64 q12)) (l3 + (1 : Int32)) _ _ _ h hS (lv_sub hl [2, 1, 0] rfl)
def f_X9_digest  (all : (Nat → Int32)) (above : Int64) (below_ : Int64) (bytesLong : Int32)  : Option (Int64) := f_X9_digest_b6  all above below_ bytesLong s_fuel (1709 : Int64) (0 : Int32)
set_option maxHeartbeats 4000000 in
set_option maxRecDepth 100000 in
theorem c_X9_digest (l : Launch) (D : va_G) (cI cB cZ : ClassId) (a_this : Nat) (a_all : Nat) (a_kept : Nat) (a_isKept : Nat) (a_refused : Nat) (a_hand : Nat) (a_outs : Nat) (a_order0 : Nat) (a_bestOrder : Nat) (a_tells : Nat) (a_bytes : Nat) (a_anew : Nat) (a_values : Nat) (all : (Nat → Int32)) (above : Int64) (below_ : Int64) (bytesLong : Int32) (tokenAt : Int32) (tokenLong : Int32) (token : Int32) (value : Int32) (rv : Int64) (sz : Nat) (hf : f_X9_digest all above below_ bytesLong = some rv) : Met l yX9_digest wsX9_digest rm_X9_digest (sPc D vwCl (s_tys cI cB cZ) [.ref a_this] (wd_X9_digest cI cB cZ a_this a_all a_kept a_isKept a_refused a_hand a_outs a_order0 a_bestOrder a_tells a_bytes a_anew a_values all above below_ bytesLong tokenAt tokenLong token value) sz) (sQl D vwCl (wd_X9_digest cI cB cZ a_this a_all a_kept a_isKept a_refused a_hand a_outs a_order0 a_bestOrder a_tells a_bytes a_anew a_values all above below_ bytesLong tokenAt tokenLong token value) (wd_X9_digest cI cB cZ a_this a_all a_kept a_isKept a_refused a_hand a_outs a_order0 a_bestOrder a_tells a_bytes a_anew a_values all above below_ bytesLong tokenAt tokenLong token value) sz rv) 0 0 (va_A (wd_X9_digest cI cB cZ a_this a_all a_kept a_isKept a_refused a_hand a_outs a_order0 a_bestOrder a_tells a_bytes a_anew a_values all above below_ bytesLong tokenAt tokenLong token value) sz) := by
  refine s_enter_l (cc := cX9_digest) (nL := 5) (r := rv) (by decide) rfl (Nat.le_of_ble_eq_true rfl) ?_
  intro p e s m args below meth c A Q C0 hend ls hl hS
  have h := hf
  clear hf
  replace hl : lv_has ls 5 [(0, .ref a_this)] := hl
  unfold f_X9_digest at h
  obtain ⟨hx, hb, hml, hown, hts, hK, hA⟩ := id C0
  have inX9 : ∀ w ∈ u_ws RX9 TX9 19, w ∈ wsX9_digest := inX9_X9_digest
  refine lv_ldc2 (v := (1709 : Int64)) hx hb hown (hts (.constantLong RX9 292 (1709)) (List.mem_of_getElem? (i := 1) rfl)) dX9_digest_0 ?_
  refine lv_lstore_n (lv' := [(1, .long (1709 : Int64)), (0, .ref a_this)]) hx hb dX9_digest_3 rfl hl (by decide) rfl (fun ls hl => ?_)
  refine lv_iconst (v := (0 : Int32)) hx hb dX9_digest_4 (by decide) ?_
  refine lv_istore_n (lv' := [(3, .int (0 : Int32)), (1, .long (1709 : Int64)), (0, .ref a_this)]) hx hb dX9_digest_5 rfl hl (by decide) rfl (fun ls hl => ?_)
  exact w_X9_digest_b6 C0 hend  s_fuel (1709 : Int64) (0 : Int32) _ _ _ h hS (lv_sub hl [2, 1, 0] rfl)

