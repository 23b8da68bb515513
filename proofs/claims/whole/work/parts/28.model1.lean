-- InnTurnedModel.in(JJJ)Z
abbrev rm_X9_in : Room := { frames := 0, cells := 0, slots := 0, locals := 0 }
def f_X9_in    (p1 : Int64) (p2 : Int64) (p3 : Int64) : Option (Int32) := (if (lg_cmp p1 p2) < 0 then some ((0 : Int32)) else (if 0 < (lg_cmp p1 p3) then some ((0 : Int32)) else some ((1 : Int32))))
set_option maxHeartbeats 4000000 in
set_option maxRecDepth 100000 in
theorem c_X9_in (l : Launch) (D : va_G) (cI cB cZ : ClassId) (p1 : Int64) (p2 : Int64) (p3 : Int64) (rv : Int32) (sz : Nat) (hf : f_X9_in p1 p2 p3 = some rv) : Met l yX9_in wsX9_in rm_X9_in (sPc D vwCl (s_tys cI cB cZ) [.long p1, .long p2, .long p3] ([] : va_W) sz) (sQi D vwCl ([] : va_W) ([] : va_W) sz rv) 0 0 (va_A ([] : va_W) sz) := by
  refine s_enter_z (cc := cX9_in) (nL := 6) (r := rv) (by decide) rfl (Nat.le_of_ble_eq_true rfl) ?_
  intro p e s m args below meth c A Q C0 hend ls hl hS
  have h := hf
  clear hf
  replace hl : lv_has ls 6 [(0, .long p1), (2, .long p2), (4, .long p3)] := hl
  unfold f_X9_in at h
  obtain ⟨hx, hb, hml, hown, hts, hK, hA⟩ := id C0
  refine lv_lload_n hx hb dX9_in_0 rfl (lv_at hl 0 rfl) ?_
  refine lv_lload_n hx hb dX9_in_1 rfl (lv_at hl 1 rfl) ?_
  refine W.lcmp hx hb dX9_in_2 ?_
  refine lv_if_lt (tgt := 17) hx hb dX9_in_3 (by decide) (fun c1 => ?_) (fun c1 => ?_)
  · replace h := s_yes c1 h
    refine lv_iconst (v := (0 : Int32)) hx hb dX9_in_17 (by decide) ?_
    obtain rfl := Option.some.inj h
    exact hend _ _ _ _ dX9_in_18 (Or.inl rfl) hS
  replace h := s_no c1 h
  refine lv_lload_n hx hb dX9_in_6 rfl (lv_at hl 0 rfl) ?_
  refine lv_lload hx hb dX9_in_7 (lv_at hl 2 rfl) ?_
  refine W.lcmp hx hb dX9_in_9 ?_
  refine lv_if_gt (tgt := 17) hx hb dX9_in_10 (by decide) (fun c2 => ?_) (fun c2 => ?_)
  · replace h := s_yes c2 h
    refine lv_iconst (v := (0 : Int32)) hx hb dX9_in_17 (by decide) ?_
    obtain rfl := Option.some.inj h
    exact hend _ _ _ _ dX9_in_18 (Or.inl rfl) hS
  replace h := s_no c2 h
  refine lv_iconst (v := (1 : Int32)) hx hb dX9_in_13 (by decide) ?_
  refine lv_goto (tgt := 18) hx hb dX9_in_14 (by decide) ?_
  obtain rfl := Option.some.inj h
  exact hend _ _ _ _ dX9_in_18 (Or.inr rfl) hS

-- InnTurnedModel.bad(I)I
def wd_X9_bad (cI cB cZ : ClassId) (a_this : Nat) (a_all : Nat) (a_kept : Nat) (a_isKept : Nat) (a_refused : Nat) (a_hand : Nat) (a_outs : Nat) (a_order0 : Nat) (a_bestOrder : Nat) (a_tells : Nat) (a_bytes : Nat) (a_anew : Nat) (a_values : Nat)  (refused : (Nat → Int32)) (above : Int64) (below_ : Int64) (bytesLong : Int32) (tokenAt : Int32) (tokenLong : Int32) (token : Int32) (value : Int32) : va_W := [(a_this, .inr (6, [.ref a_all, .ref a_kept, .ref a_isKept, .ref a_refused, .long above, .long below_, .ref a_hand, .ref a_outs, .ref a_order0, .ref a_bestOrder, .ref a_tells, .ref a_bytes, .int bytesLong, .int tokenAt, .int tokenLong, .int token, .int value, .ref a_anew, .ref a_values])), (a_refused, .inl (cI, 3, .inl refused))]
abbrev rm_X9_bad : Room := { frames := 0, cells := 0, slots := 0, locals := 0 }
set_option maxRecDepth 20000 in
theorem inX9_X9_bad : ∀ w ∈ u_ws RX9 TX9 19, w ∈ wsX9_bad := by decide +kernel
def f_X9_bad   (refused : (Nat → Int32)) (p1 : Int32) : Option (Int32 × (Nat → Int32)) := some (p1, (upd refused (Int32.toNatClampNeg (0 : Int32)) ((refused (Int32.toNatClampNeg (0 : Int32))) + (1 : Int32))))
set_option maxHeartbeats 4000000 in
set_option maxRecDepth 100000 in
theorem c_X9_bad (l : Launch) (D : va_G) (cI cB cZ : ClassId) (a_this : Nat) (a_all : Nat) (a_kept : Nat) (a_isKept : Nat) (a_refused : Nat) (a_hand : Nat) (a_outs : Nat) (a_order0 : Nat) (a_bestOrder : Nat) (a_tells : Nat) (a_bytes : Nat) (a_anew : Nat) (a_values : Nat) (refused : (Nat → Int32)) (above : Int64) (below_ : Int64) (bytesLong : Int32) (tokenAt : Int32) (tokenLong : Int32) (token : Int32) (value : Int32) (p1 : Int32) (rv : Int32 × (Nat → Int32)) (sz : Nat) (hf : f_X9_bad refused p1 = some rv) : Met l yX9_bad wsX9_bad rm_X9_bad (sPc D vwCl (s_tys cI cB cZ) [.ref a_this, .int p1] (wd_X9_bad cI cB cZ a_this a_all a_kept a_isKept a_refused a_hand a_outs a_order0 a_bestOrder a_tells a_bytes a_anew a_values refused above below_ bytesLong tokenAt tokenLong token value) sz) (sQi D vwCl (wd_X9_bad cI cB cZ a_this a_all a_kept a_isKept a_refused a_hand a_outs a_order0 a_bestOrder a_tells a_bytes a_anew a_values refused above below_ bytesLong tokenAt tokenLong token value) (wd_X9_bad cI cB cZ a_this a_all a_kept a_isKept a_refused a_hand a_outs a_order0 a_bestOrder a_tells a_bytes a_anew a_values rv.2 above below_ bytesLong tokenAt tokenLong token value) sz rv.1) 0 0 (va_A (wd_X9_bad cI cB cZ a_this a_all a_kept a_isKept a_refused a_hand a_outs a_order0 a_bestOrder a_tells a_bytes a_anew a_values refused above below_ bytesLong tokenAt tokenLong token value) sz) := by
  refine s_enter_n (cc := cX9_bad) (nL := 2) (r := rv.1) (by decide) rfl (Nat.le_of_ble_eq_true rfl) ?_
  intro p e s m args below meth c A Q C0 hend ls hl hS
  have h := hf
  clear hf
  replace hl : lv_has ls 2 [(0, .ref a_this), (1, .int p1)] := hl
  unfold f_X9_bad at h
  obtain ⟨hx, hb, hml, hown, hts, hK, hA⟩ := id C0
  have inX9 : ∀ w ∈ u_ws RX9 TX9 19, w ∈ wsX9_bad := inX9_X9_bad
  refine lv_aload_n hx hb dX9_bad_0 rfl (lv_at hl 0 rfl) ?_
  refine s_get (C := RX9) (T := TX9) (N := 19) hx hb hts inX9 hown hK hS 0 rfl rfl 3 (by decide) (hts (.fieldLink RX9 20 "InnTurnedModel" "refused" "[I") (List.mem_of_getElem? (i := 1) rfl)) rfl rfl dX9_bad_1 ?_
  refine lv_iconst (v := (0 : Int32)) hx hb dX9_bad_4 (by decide) ?_
  refine lv_dup2_11 hx hb dX9_bad_5 rfl rfl ?_
  refine s_iald hx hb hK hS 1 rfl rfl (by decide) dX9_bad_6 ?_
  refine lv_iconst (v := (1 : Int32)) hx hb dX9_bad_7 (by decide) ?_
  refine lv_iadd hx hb dX9_bad_8 ?_
  refine s_iast (ws' := (wd_X9_bad cI cB cZ a_this a_all a_kept a_isKept a_refused a_hand a_outs a_order0 a_bestOrder a_tells a_bytes a_anew a_values (upd refused (Int32.toNatClampNeg (0 : Int32)) ((refused (Int32.toNatClampNeg (0 : Int32))) + (1 : Int32))) above below_ bytesLong tokenAt tokenLong token value)) hx hb hK hS 1 rfl rfl (by decide) rfl dX9_bad_9 (fun H locs hS => ?_)
  refine lv_iload_n hx hb dX9_bad_10 rfl (lv_at hl 1 rfl) ?_
  obtain rfl := Option.some.inj h
  exact hend _ _ _ _ dX9_bad_11 hS

-- InnTurnedModel.no()I
def wd_X9_no (cI cB cZ : ClassId) (a_this : Nat) (a_all : Nat) (a_kept : Nat) (a_isKept : Nat) (a_refused : Nat) (a_hand : Nat) (a_outs : Nat) (a_order0 : Nat) (a_bestOrder : Nat) (a_tells : Nat) (a_bytes : Nat) (a_anew : Nat) (a_values : Nat)  (refused : (Nat → Int32)) (above : Int64) (below_ : Int64) (bytesLong : Int32) (tokenAt : Int32) (tokenLong : Int32) (token : Int32) (value : Int32) : va_W := [(a_this, .inr (6, [.ref a_all, .ref a_kept, .ref a_isKept, .ref a_refused, .long above, .long below_, .ref a_hand, .ref a_outs, .ref a_order0, .ref a_bestOrder, .ref a_tells, .ref a_bytes, .int bytesLong, .int tokenAt, .int tokenLong, .int token, .int value, .ref a_anew, .ref a_values])), (a_refused, .inl (cI, 3, .inl refused))]
abbrev rm_X9_no : Room := { frames := 0, cells := 0, slots := 0, locals := 0 }
set_option maxRecDepth 20000 in
theorem inX9_X9_no : ∀ w ∈ u_ws RX9 TX9 19, w ∈ wsX9_no := by decide +kernel
def f_X9_no   (refused : (Nat → Int32)) : Option (Int32 × (Nat → Int32)) := some ((-3 : Int32), (upd refused (Int32.toNatClampNeg (1 : Int32)) ((refused (Int32.toNatClampNeg (1 : Int32))) + (1 : Int32))))
set_option maxHeartbeats 4000000 in
set_option maxRecDepth 100000 in
theorem c_X9_no (l : Launch) (D : va_G) (cI cB cZ : ClassId) (a_this : Nat) (a_all : Nat) (a_kept : Nat) (a_isKept : Nat) (a_refused : Nat) (a_hand : Nat) (a_outs : Nat) (a_order0 : Nat) (a_bestOrder : Nat) (a_tells : Nat) (a_bytes : Nat) (a_anew : Nat) (a_values : Nat) (refused : (Nat → Int32)) (above : Int64) (below_ : Int64) (bytesLong : Int32) (tokenAt : Int32) (tokenLong : Int32) (token : Int32) (value : Int32) (rv : Int32 × (Nat → Int32)) (sz : Nat) (hf : f_X9_no refused = some rv) : Met l yX9_no wsX9_no rm_X9_no (sPc D vwCl (s_tys cI cB cZ) [.ref a_this] (wd_X9_no cI cB cZ a_this a_all a_kept a_isKept a_refused a_hand a_outs a_order0 a_bestOrder a_tells a_bytes a_anew a_values refused above below_ bytesLong tokenAt tokenLong token value) sz) (sQi D vwCl (wd_X9_no cI cB cZ a_this a_all a_kept a_isKept a_refused a_hand a_outs a_order0 a_bestOrder a_tells a_bytes a_anew a_values refused above below_ bytesLong tokenAt tokenLong token value) (wd_X9_no cI cB cZ a_this a_all a_kept a_isKept a_refused a_hand a_outs a_order0 a_bestOrder a_tells a_bytes a_anew a_values rv.2 above below_ bytesLong tokenAt tokenLong token value) sz rv.1) 0 0 (va_A (wd_X9_no cI cB cZ a_this a_all a_kept a_isKept a_refused a_hand a_outs a_order0 a_bestOrder a_tells a_bytes a_anew a_values refused above below_ bytesLong tokenAt tokenLong token value) sz) := by
  refine s_enter_n (cc := cX9_no) (nL := 1) (r := rv.1) (by decide) rfl (Nat.le_of_ble_eq_true rfl) ?_
  intro p e s m args below meth c A Q C0 hend ls hl hS
  have h := hf
  clear hf
  replace hl : lv_has ls 1 [(0, .ref a_this)] := hl
  unfold f_X9_no at h
  obtain ⟨hx, hb, hml, hown, hts, hK, hA⟩ := id C0
  have inX9 : ∀ w ∈ u_ws RX9 TX9 19, w ∈ wsX9_no := inX9_X9_no
  refine lv_aload_n hx hb dX9_no_0 rfl (lv_at hl 0 rfl) ?_
  refine s_get (C := RX9) (T := TX9) (N := 19) hx hb hts inX9 hown hK hS 0 rfl rfl 3 (by decide) (hts (.fieldLink RX9 20 "InnTurnedModel" "refused" "[I") (List.mem_of_getElem? (i := 1) rfl)) rfl rfl dX9_no_1 ?_
  refine lv_iconst (v := (1 : Int32)) hx hb dX9_no_4 (by decide) ?_
  refine lv_dup2_11 hx hb dX9_no_5 rfl rfl ?_
  refine s_iald hx hb hK hS 1 rfl rfl (by decide) dX9_no_6 ?_
  refine lv_iconst (v := (1 : Int32)) hx hb dX9_no_7 (by decide) ?_
  refine lv_iadd hx hb dX9_no_8 ?_
  refine s_iast (ws' := (wd_X9_no cI cB cZ a_this a_all a_kept a_isKept a_refused a_hand a_outs a_order0 a_bestOrder a_tells a_bytes a_anew a_values (upd refused (Int32.toNatClampNeg (1 : Int32)) ((refused (Int32.toNatClampNeg (1 : Int32))) + (1 : Int32))) above below_ bytesLong tokenAt tokenLong token value)) hx hb hK hS 1 rfl rfl (by decide) rfl dX9_no_9 (fun H locs hS => ?_)
  refine lv_bipush (v := (-3 : Int32)) hx hb dX9_no_10 (by decide) ?_
  obtain rfl := Option.some.inj h
  exact hend _ _ _ _ dX9_no_12 hS

-- InnTurnedModel.full()I
def wd_X9_full (cI cB cZ : ClassId) (a_this : Nat) (a_all : Nat) (a_kept : Nat) (a_isKept : Nat) (a_refused : Nat) (a_hand : Nat) (a_outs : Nat) (a_order0 : Nat) (a_bestOrder : Nat) (a_tells : Nat) (a_bytes : Nat) (a_anew : Nat) (a_values : Nat)  (refused : (Nat → Int32)) (above : Int64) (below_ : Int64) (bytesLong : Int32) (tokenAt : Int32) (tokenLong : Int32) (token : Int32) (value : Int32) : va_W := [(a_this, .inr (6, [.ref a_all, .ref a_kept, .ref a_isKept, .ref a_refused, .long above, .long below_, .ref a_hand, .ref a_outs, .ref a_order0, .ref a_bestOrder, .ref a_tells, .ref a_bytes, .int bytesLong, .int tokenAt, .int tokenLong, .int token, .int value, .ref a_anew, .ref a_values])), (a_refused, .inl (cI, 3, .inl refused))]
abbrev rm_X9_full : Room := { frames := 0, cells := 0, slots := 0, locals := 0 }
set_option maxRecDepth 20000 in
theorem inX9_X9_full : ∀ w ∈ u_ws RX9 TX9 19, w ∈ wsX9_full := by decide +kernel
def f_X9_full   (refused : (Nat → Int32)) : Option (Int32 × (Nat → Int32)) := some ((-4 : Int32), (upd refused (Int32.toNatClampNeg (2 : Int32)) ((refused (Int32.toNatClampNeg (2 : Int32))) + (1 : Int32))))
set_option maxHeartbeats 4000000 in
set_option maxRecDepth 100000 in
theorem c_X9_full (l : Launch) (D : va_G) (cI cB cZ : ClassId) (a_this : Nat) (a_all : Nat) (a_kept : Nat) (a_isKept : Nat) (a_refused : Nat) (a_hand : Nat) (a_outs : Nat) (a_order0 : Nat) (a_bestOrder : Nat) (a_tells : Nat) (a_bytes : Nat) (a_anew : Nat) (a_values : Nat) (refused : (Nat → Int32)) (above : Int64) (below_ : Int64) (bytesLong : Int32) (tokenAt : Int32) (tokenLong : Int32) (token : Int32) (value : Int32) (rv : Int32 × (Nat → Int32)) (sz : Nat) (hf : f_X9_full refused = some rv) : Met l yX9_full wsX9_full rm_X9_full (sPc D vwCl (s_tys cI cB cZ) [.ref a_this] (wd_X9_full cI cB cZ a_this a_all a_kept a_isKept a_refused a_hand a_outs a_order0 a_bestOrder a_tells a_bytes a_anew a_values refused above below_ bytesLong tokenAt tokenLong token value) sz) (sQi D vwCl (wd_X9_full cI cB cZ a_this a_all a_kept a_isKept a_refused a_hand a_outs a_order0 a_bestOrder a_tells a_bytes a_anew a_values refused above below_ bytesLong tokenAt tokenLong token value) (wd_X9_full cI cB cZ a_this a_all a_kept a_isKept a_refused a_hand a_outs a_order0 a_bestOrder a_tells a_bytes a_anew a_values rv.2 above below_ bytesLong tokenAt tokenLong token value) sz rv.1) 0 0 (va_A (wd_X9_full cI cB cZ a_this a_all a_kept a_isKept a_refused a_hand a_outs a_order0 a_bestOrder a_tells a_bytes a_anew a_values refused above below_ bytesLong tokenAt tokenLong token value) sz) := by
  refine s_enter_n (cc := cX9_full) (nL := 1) (r := rv.1) (by decide) rfl (Nat.le_of_ble_eq_true rfl) ?_
  intro p e s m args below meth c A Q C0 hend ls hl hS
  have h := hf
  clear hf
  replace hl : lv_has ls 1 [(0, .ref a_this)] := hl
  unfold f_X9_full at h
  obtain ⟨hx, hb, hml, hown, hts, hK, hA⟩ := id C0
  have inX9 : ∀ w ∈ u_ws RX9 TX9 19, w ∈ wsX9_full := inX9_X9_full
  refine lv_aload_n hx hb dX9_full_0 rfl (lv_at hl 0 rfl) ?_
  refine s_get (C := RX9) (T := TX9) (N := 19) hx hb hts inX9 hown hK hS 0 rfl rfl 3 (by decide) (hts (.fieldLink RX9 20 "InnTurnedModel" "refused" "[I") (List.mem_of_getElem? (i := 1) rfl)) rfl rfl dX9_full_1 ?_
  refine lv_iconst (v := (2 : Int32)) hx hb dX9_full_4 (by decide) ?_
  refine lv_dup2_11 hx hb dX9_full_5 rfl rfl ?_
  refine s_iald hx hb hK hS 1 rfl rfl (by decide) dX9_full_6 ?_
  refine lv_iconst (v := (1 : Int32)) hx hb dX9_full_7 (by decide) ?_
  refine lv_iadd hx hb dX9_full_8 ?_
  refine s_iast (ws' := (wd_X9_full cI cB cZ a_this a_all a_kept a_isKept a_refused a_hand a_outs a_order0 a_bestOrder a_tells a_bytes a_anew a_values (upd refused (Int32.toNatClampNeg (2 : Int32)) ((refused (Int32.toNatClampNeg (2 : Int32))) + (1 : Int32))) above below_ bytesLong tokenAt tokenLong token value)) hx hb hK hS 1 rfl rfl (by decide) rfl dX9_full_9 (fun H locs hS => ?_)
  refine lv_bipush (v := (-4 : Int32)) hx hb dX9_full_10 (by decide) ?_
  obtain rfl := Option.some.inj h
  exact hend _ _ _ _ dX9_full_12 hS

-- InnTurnedModel.has(II)Z
abbrev rm_X9_has : Room := { frames := 0, cells := 0, slots := 0, locals := 0 }
def f_X9_has    (p1 : Int32) (p2 : Int32) : Option (Int32) := (if ((p1 >>> (p2 &&& 31)) &&& (1 : Int32)) = (1 : Int32) then some ((1 : Int32)) else some ((0 : Int32)))
set_option maxHeartbeats 4000000 in
set_option maxRecDepth 100000 in
theorem c_X9_has (l : Launch) (D : va_G) (cI cB cZ : ClassId) (p1 : Int32) (p2 : Int32) (rv : Int32) (sz : Nat) (hf : f_X9_has p1 p2 = some rv) : Met l yX9_has wsX9_has rm_X9_has (sPc D vwCl (s_tys cI cB cZ) [.int p1, .int p2] ([] : va_W) sz) (sQi D vwCl ([] : va_W) ([] : va_W) sz rv) 0 0 (va_A ([] : va_W) sz) := by
  refine s_enter_z (cc := cX9_has) (nL := 2) (r := rv) (by decide) rfl (Nat.le_of_ble_eq_true rfl) ?_
  intro p e s m args below meth c A Q C0 hend ls hl hS
  have h := hf
  clear hf
  replace hl : lv_has ls 2 [(0, .int p1), (1, .int p2)] := hl
  unfold f_X9_has at h
  obtain ⟨hx, hb, hml, hown, hts, hK, hA⟩ := id C0
  refine lv_iload_n hx hb dX9_has_0 rfl (lv_at hl 0 rfl) ?_
  refine lv_iload_n hx hb dX9_has_1 rfl (lv_at hl 1 rfl) ?_
  refine lv_ishr hx hb dX9_has_2 ?_
  refine lv_iconst (v := (1 : Int32)) hx hb dX9_has_3 (by decide) ?_
  refine lv_iand hx hb dX9_has_4 ?_
  refine lv_iconst (v := (1 : Int32)) hx hb dX9_has_5 (by decide) ?_
  refine lv_icmp_ne (tgt := 13) hx hb dX9_has_6 (by decide) (fun c1 => ?_) (fun c1 => ?_)
  · replace h := s_no c1 h
    refine lv_iconst (v := (0 : Int32)) hx hb dX9_has_13 (by decide) ?_
    obtain rfl := Option.some.inj h
    exact hend _ _ _ _ dX9_has_14 (Or.inl rfl) hS
  replace h := s_yes c1 h
  refine lv_iconst (v := (1 : Int32)) hx hb dX9_has_9 (by decide) ?_
  refine lv_goto (tgt := 14) hx hb dX9_has_10 (by decide) ?_
  obtain rfl := Option.some.inj h
  exact hend _ _ _ _ dX9_has_14 (Or.inr rfl) hS

-- InnTurnedModel.bits(I)I
abbrev rm_X9_bits : Room := { frames := 0, cells := 0, slots := 0, locals := 0 }
def f_X9_bits_b4   : Nat → Int32 → Int32 → Option (Int32)
  | 0, _, _ => none
  | fu + 1, l1, l2 => (if l2 ≤ 0 then some (l1) else (f_X9_bits_b4  fu) (l1 + (l2 &&& (1 : Int32))) (l2 >>> ((1 : Int32) &&& 31)))
set_option maxHeartbeats 4000000 in
set_option maxRecDepth 100000 in
theorem w_X9_bits_b4 {p : Program} {l : Launch} {e : Env} {s : State} {m : MethodId} {args : Array Value} {below : List Frame} {meth : Method} {c : Code} {A : Nat → Prop} {Q : State → Prop} {D : va_G} {cI cB cZ : ClassId} (C0 : Cx p s m args c cX9_bits 3 RX9 wsX9_bits D (s_tys cI cB cZ) A) {rv : Int32} (hend : ∀ (pc : Nat) (H : Heap) (locs : List Loc) (ls : Array Slot), decode cX9_bits pc = .ok (.ireturn, 1) → sS D vwCl A s.heap ([] : va_W) H locs → W p l e rm_X9_bits s m args below meth c H locs 0 0 Q (F0 m pc ls [.int rv])) : ∀ (fu : Nat)  (l1 : Int32) (l2 : Int32) (H : Heap) (locs : List Loc) (ls : Array Slot), f_X9_bits_b4  fu l1 l2 = some rv → sS D vwCl A s.heap ([] : va_W) H locs → lv_has ls 3 [(1, .int l1), (2, .int l2)] → W p l e rm_X9_bits s m args below meth c H locs 0 0 Q (F0 m 4 ls []) := by
  obtain ⟨hx, hb, hml, hown, hts, hK, hA⟩ := id C0
  intro fu
  induction fu with
  | zero => intro l1 l2 H locs ls h; cases h
  | succ fu ih =>
    intro l1 l2 H locs ls h hS hl
    rw [f_X9_bits_b4] at h
    refine lv_iload_n hx hb dX9_bits_4 rfl (lv_at hl 1 rfl) ?_
    refine lv_if_le (tgt := 21) hx hb dX9_bits_5 (by decide) (fun c1 => ?_) (fun c1 => ?_)
    · replace h := s_yes c1 h
      refine lv_iload_n hx hb dX9_bits_21 rfl (lv_at hl 0 rfl) ?_
      obtain rfl := Option.some.inj h
      exact hend _ _ _ _ dX9_bits_22 hS
    replace h := s_no c1 h
    refine lv_iload_n hx hb dX9_bits_8 rfl (lv_at hl 0 rfl) ?_
    refine lv_iload_n hx hb dX9_bits_9 rfl (lv_at hl 1 rfl) ?_
    refine lv_iconst (v := (1 : Int32)) hx hb dX9_bits_10 (by decide) ?_
    refine lv_iand hx hb dX9_bits_11 ?_
    refine lv_iadd hx hb dX9_bits_12 ?_
    refine lv_istore_n (lv' := [(1, .int (l1 + (l2 &&& (1 : Int32)))), (2, .int l2)]) hx hb dX9_bits_13 rfl hl (by decide) rfl (fun ls hl => ?_)
    refine lv_iload_n hx hb dX9_bits_14 rfl (lv_at hl 1 rfl) ?_
    refine lv_iconst (v := (1 : Int32)) hx hb dX9_bits_15 (by decide) ?_
    refine lv_ishr hx hb dX9_bits_16 ?_
    refine lv_istore_n (lv' := [(2, .int (l2 >>> ((1 : Int32) &&& 31))), (1, .int (l1 + (l2 &&& (1 : Int32))))]) hx hb dX9_bits_17 rfl hl (by decide) rfl (fun ls hl => ?_)
    refine lv_goto (tgt := 4) hx hb dX9_bits_18 (by decide) ?_
    exact ih (l1 + (l2 &&& (1 : Int32))) (l2 >>> ((1 : Int32) &&& 31)) _ _ _ h hS (lv_sub hl [1, 0] rfl)
def f_X9_bits    (p1 : Int32) : Option (Int32) := f_X9_bits_b4   s_fuel (0 : Int32) p1
set_option maxHeartbeats 4000000 in
set_option maxRecDepth 100000 in
theorem c_X9_bits (l : Launch) (D : va_G) (cI cB cZ : ClassId) (p1 : Int32) (rv : Int32) (sz : Nat) (hf : f_X9_bits p1 = some rv) : Met l yX9_bits wsX9_bits rm_X9_bits (sPc D vwCl (s_tys cI cB cZ) [.int p1] ([] : va_W) sz) (sQi D vwCl ([] : va_W) ([] : va_W) sz rv) 0 0 (va_A ([] : va_W) sz) := by
  refine s_enter_n (cc := cX9_bits) (nL := 3) (r := rv) (by decide) rfl (Nat.le_of_ble_eq_true rfl) ?_
  intro p e s m args below meth c A Q C0 hend ls hl hS
  have h := hf
  clear hf
  replace hl : lv_has ls 3 [(0, .int p1)] := hl
  unfold f_X9_bits at h
  obtain ⟨hx, hb, hml, hown, hts, hK, hA⟩ := id C0
  refine lv_iconst (v := (0 : Int32)) hx hb dX9_bits_0 (by decide) ?_
  refine lv_istore_n (lv' := [(1, .int (0 : Int32)), (0, .int p1)]) hx hb dX9_bits_1 rfl hl (by decide) rfl (fun ls hl => ?_)
  refine lv_iload_n hx hb dX9_bits_2 rfl (lv_at hl 1 rfl) ?_
  refine lv_istore_n (lv' := [(2, .int p1), (1, .int (0 : Int32)), (0, .int p1)]) hx hb dX9_bits_3 rfl hl (by decide) rfl (fun ls hl => ?_)
  exact w_X9_bits_b4 C0 hend  s_fuel (0 : Int32) p1 _ _ _ h hS (lv_sub hl [1, 0] rfl)

-- InnTurnedModel.begin([III)V
def wd_X9_begin (cI cB cZ : ClassId) (a_p1 : Nat) (n_p1 : Nat) (p1 : (Nat → Int32)) : va_W := [(a_p1, .inl (cI, n_p1, .inl p1))]
abbrev rm_X9_begin : Room := { frames := 0, cells := 0, slots := 0, locals := 0 }
def f_X9_begin_b2 (n_p1 : Nat)  : Nat → (Nat → Int32) → Int32 → Int32 → Int32 → Option ((Nat → Int32))
  | 0, _, _, _, _ => none
  | fu + 1, p1, l1, l2, l3 => (if (106 : Int32) ≤ l3 then (if ¬ ((23 : Int32) < 0 ∨ n_p1 ≤ (Int32.toNatClampNeg (23 : Int32))) then (if ¬ ((24 : Int32) < 0 ∨ n_p1 ≤ (Int32.toNatClampNeg (24 : Int32))) then some ((upd (upd p1 (Int32.toNatClampNeg (23 : Int32)) l1) (Int32.toNatClampNeg (24 : Int32)) l2)) else none) else none) else (if ¬ (l3 < 0 ∨ n_p1 ≤ (Int32.toNatClampNeg l3)) then (f_X9_begin_b2 n_p1 fu) (upd p1 (Int32.toNatClampNeg l3) (0 : Int32)) l1 l2 (l3 + (1 : Int32)) else none))
set_option maxHeartbeats 4000000 in
set_option maxRecDepth 100000 in
theorem w_X9_begin_b2 {p : Program} {l : Launch} {e : Env} {s : State} {m : MethodId} {args : Array Value} {below : List Frame} {meth : Method} {c : Code} {A : Nat → Prop} {Q : State → Prop} {D : va_G} {cI cB cZ : ClassId} {a_p1 : Nat} {n_p1 : Nat} (C0 : Cx p s m args c cX9_begin 4 RX9 wsX9_begin D (s_tys cI cB cZ) A) {rv : (Nat → Int32)} (hend : ∀ (pc : Nat) (H : Heap) (locs : List Loc) (ls : Array Slot), decode cX9_begin pc = .ok (.return_, 1) → sS D vwCl A s.heap (wd_X9_begin cI cB cZ a_p1 n_p1 rv) H locs → W p l e rm_X9_begin s m args below meth c H locs 0 0 Q (F0 m pc ls [])) : ∀ (fu : Nat) (p1 : (Nat → Int32)) (l1 : Int32) (l2 : Int32) (l3 : Int32) (H : Heap) (locs : List Loc) (ls : Array Slot), f_X9_begin_b2 n_p1 fu p1 l1 l2 l3 = some rv → sS D vwCl A s.heap (wd_X9_begin cI cB cZ a_p1 n_p1 p1) H locs → lv_has ls 4 [(0, .ref a_p1), (1, .int l1), (2, .int l2), (3, .int l3)] → W p l e rm_X9_begin s m args below meth c H locs 0 0 Q (F0 m 2 ls []) := by
  obtain ⟨hx, hb, hml, hown, hts, hK, hA⟩ := id C0
  intro fu
  induction fu with
  | zero => intro p1 l1 l2 l3 H locs ls h; cases h
  | succ fu ih =>
    intro p1 l1 l2 l3 H locs ls h hS hl
    rw [f_X9_begin_b2] at h
    refine lv_iload_n hx hb dX9_begin_2 rfl (lv_at hl 3 rfl) ?_
    refine lv_bipush (v := (106 : Int32)) hx hb dX9_begin_3 (by decide) ?_
    refine lv_icmp_ge (tgt := 18) hx hb dX9_begin_5 (by decide) (fun c1 => ?_) (fun c1 => ?_)
    · replace h := s_yes c1 h
      refine lv_aload_n hx hb dX9_begin_18 rfl (lv_at hl 0 rfl) ?_
      refine lv_bipush (v := (23 : Int32)) hx hb dX9_begin_19 (by decide) ?_
      refine lv_iload_n hx hb dX9_begin_21 rfl (lv_at hl 1 rfl) ?_
      obtain ⟨g2, h⟩ := s_guard h
      refine s_iast (ws' := (wd_X9_begin cI cB cZ a_p1 n_p1 (upd p1 (Int32.toNatClampNeg (23 : Int32)) l1))) hx hb hK hS 0 rfl rfl g2 rfl dX9_begin_22 (fun H locs hS => ?_)
      refine lv_aload_n hx hb dX9_begin_23 rfl (lv_at hl 0 rfl) ?_
      refine lv_bipush (v := (24 : Int32)) hx hb dX9_begin_24 (by decide) ?_
      refine lv_iload_n hx hb dX9_begin_26 rfl (lv_at hl 2 rfl) ?_
      obtain ⟨g3, h⟩ := s_guard h
      refine s_iast (ws' := (wd_X9_begin cI cB cZ a_p1 n_p1 (upd (upd p1 (Int32.toNatClampNeg (23 : Int32)) l1) (Int32.toNatClampNeg (24 : Int32)) l2))) hx hb hK hS 0 rfl rfl g3 rfl dX9_begin_27 (fun H locs hS => ?_)
      obtain rfl := Option.some.inj h
      exact hend _ _ _ _ dX9_begin_28 hS
    replace h := s_no c1 h
    refine lv_aload_n hx hb dX9_begin_8 rfl (lv_at hl 0 rfl) ?_
    refine lv_iload_n hx hb dX9_begin_9 rfl (lv_at hl 3 rfl) ?_
    refine lv_iconst (v := (0 : Int32)) hx hb dX9_begin_10 (by decide) ?_
    obtain ⟨g4, h⟩ := s_guard h
    refine s_iast (ws' := (wd_X9_begin cI cB cZ a_p1 n_p1 (upd p1 (Int32.toNatClampNeg l3) (0 : Int32)))) hx hb hK hS 0 rfl rfl g4 rfl dX9_begin_11 (fun H locs hS => ?_)
    refine lv_iinc (v := (l3 + (1 : Int32))) (lv' := [(3, .int (l3 + (1 : Int32))), (0, .ref a_p1), (1, .int l1), (2, .int l2)]) hx hb dX9_begin_12 hl (k := 3) rfl rfl (by decide) rfl (fun ls hl => ?_)
    refine lv_goto (tgt := 2) hx hb dX9_begin_15 (by decide) ?_
    exact ih (upd p1 (Int32.toNatClampNeg l3) (0 : Int32)) l1 l2 (l3 + (1 : Int32)) _ _ _ h hS (lv_sub hl [1, 2, 3, 0] rfl)
def f_X9_begin (n_p1 : Nat)  (p1 : (Nat → Int32)) (p2 : Int32) (p3 : Int32) : Option ((Nat → Int32)) := f_X9_begin_b2  n_p1 s_fuel p1 p2 p3 (0 : Int32)
set_option maxHeartbeats 4000000 in
set_option maxRecDepth 100000 in
theorem c_X9_begin (l : Launch) (D : va_G) (cI cB cZ : ClassId) (a_p1 : Nat) (n_p1 : Nat) (p1 : (Nat → Int32)) (p2 : Int32) (p3 : Int32) (rv : (Nat → Int32)) (sz : Nat) (hf : f_X9_begin n_p1 p1 p2 p3 = some rv) : Met l yX9_begin wsX9_begin rm_X9_begin (sPc D vwCl (s_tys cI cB cZ) [.ref a_p1, .int p2, .int p3] (wd_X9_begin cI cB cZ a_p1 n_p1 p1) sz) (sQv D vwCl (wd_X9_begin cI cB cZ a_p1 n_p1 p1) (wd_X9_begin cI cB cZ a_p1 n_p1 rv) sz) 0 0 (va_A (wd_X9_begin cI cB cZ a_p1 n_p1 p1) sz) := by
  refine s_enter_v (cc := cX9_begin) (nL := 4) (by decide) rfl (Nat.le_of_ble_eq_true rfl) ?_
  intro p e s m args below meth c A Q C0 hend ls hl hS
  have h := hf
  clear hf
  replace hl : lv_has ls 4 [(0, .ref a_p1), (1, .int p2), (2, .int p3)] := hl
  unfold f_X9_begin at h
  obtain ⟨hx, hb, hml, hown, hts, hK, hA⟩ := id C0
  refine lv_iconst (v := (0 : Int32)) hx hb dX9_begin_0 (by decide) ?_
  refine lv_istore_n (lv' := [(3, .int (0 : Int32)), (0, .ref a_p1), (1, .int p2), (2, .int p3)]) hx hb dX9_begin_1 rfl hl (by decide) rfl (fun ls hl => ?_)
  exact w_X9_begin_b2 C0 hend  s_fuel p1 p2 p3 (0 : Int32) _ _ _ h hS (lv_sub hl [1, 2, 3, 0] rfl)

-- InnTurnedModel.many()I
def wd_X9_many (cI cB cZ : ClassId) (a_this : Nat) (a_all : Nat) (a_kept : Nat) (a_isKept : Nat) (a_refused : Nat) (a_hand : Nat) (a_outs : Nat) (a_order0 : Nat) (a_bestOrder : Nat) (a_tells : Nat) (a_bytes : Nat) (a_anew : Nat) (a_values : Nat)  (all : (Nat → Int32)) (above : Int64) (below_ : Int64) (bytesLong : Int32) (tokenAt : Int32) (tokenLong : Int32) (token : Int32) (value : Int32) : va_W := [(a_this, .inr (6, [.ref a_all, .ref a_kept, .ref a_isKept, .ref a_refused, .long above, .long below_, .ref a_hand, .ref a_outs, .ref a_order0, .ref a_bestOrder, .ref a_tells, .ref a_bytes, .int bytesLong, .int tokenAt, .int tokenLong, .int token, .int value, .ref a_anew, .ref a_values])), (a_all, .inl (cI, 250, .inl all))]
abbrev rm_X9_many : Room := { frames := 0, cells := 0, slots := 0, locals := 0 }
set_option maxRecDepth 20000 in
theorem inX9_X9_many : ∀ w ∈ u_ws RX9 TX9 19, w ∈ wsX9_many := by decide +kernel
def f_X9_many  (all : (Nat → Int32))  : Option (Int32) := some ((all (Int32.toNatClampNeg (0 : Int32))))
set_option maxHeartbeats 4000000 in
set_option maxRecDepth 100000 in
theorem c_X9_many (l : Launch) (D : va_G) (cI cB cZ : ClassId) (a_this : Nat) (a_all : Nat) (a_kept : Nat) (a_isKept : Nat) (a_refused : Nat) (a_hand : Nat) (a_outs : Nat) (a_order0 : Nat) (a_bestOrder : Nat) (a_tells : Nat) (a_bytes : Nat) (a_anew : Nat) (a_values : Nat) (all : (Nat → Int32)) (above : Int64) (below_ : Int64) (bytesLong : Int32) (tokenAt : Int32) (tokenLong : Int32) (token : Int32) (value : Int32) (rv : Int32) (sz : Nat) (hf : f_X9_many all = some rv) : Met l yX9_many wsX9_many rm_X9_many (sPc D vwCl (s_tys cI cB cZ) [.ref a_this] (wd_X9_many cI cB cZ a_this a_all a_kept a_isKept a_refused a_hand a_outs a_order0 a_bestOrder a_tells a_bytes a_anew a_values all above below_ bytesLong tokenAt tokenLong token value) sz) (sQi D vwCl (wd_X9_many cI cB cZ a_this a_all a_kept a_isKept a_refused a_hand a_outs a_order0 a_bestOrder a_tells a_bytes a_anew a_values all above below_ bytesLong tokenAt tokenLong token value) (wd_X9_many cI cB cZ a_this a_all a_kept a_isKept a_refused a_hand a_outs a_order0 a_bestOrder a_tells a_bytes a_anew a_values all above below_ bytesLong tokenAt tokenLong token value) sz rv) 0 0 (va_A (wd_X9_many cI cB cZ a_this a_all a_kept a_isKept a_refused a_hand a_outs a_order0 a_bestOrder a_tells a_bytes a_anew a_values all above below_ bytesLong tokenAt tokenLong token value) sz) := by
  refine s_enter_n (cc := cX9_many) (nL := 1) (r := rv) (by decide) rfl (Nat.le_of_ble_eq_true rfl) ?_
  intro p e s m args below meth c A Q C0 hend ls hl hS
  have h := hf
  clear hf
  replace hl : lv_has ls 1 [(0, .ref a_this)] := hl
  unfold f_X9_many at h
  obtain ⟨hx, hb, hml, hown, hts, hK, hA⟩ := id C0
  have inX9 : ∀ w ∈ u_ws RX9 TX9 19, w ∈ wsX9_many := inX9_X9_many
  refine lv_aload_n hx hb dX9_many_0 rfl (lv_at hl 0 rfl) ?_
  refine s_get (C := RX9) (T := TX9) (N := 19) hx hb hts inX9 hown hK hS 0 rfl rfl 0 (by decide) (hts (.fieldLink RX9 7 "InnTurnedModel" "all" "[I") (List.mem_of_getElem? (i := 1) rfl)) rfl rfl dX9_many_1 ?_
  refine lv_iconst (v := (0 : Int32)) hx hb dX9_many_4 (by decide) ?_
  refine s_iald hx hb hK hS 1 rfl rfl (by decide) dX9_many_5 ?_
  obtain rfl := Option.some.inj h
  exact hend _ _ _ _ dX9_many_6 hS

-- InnTurnedModel.isOne(I)Z
def wd_X9_isOne (cI cB cZ : ClassId) (a_this : Nat) (a_all : Nat) (a_kept : Nat) (a_isKept : Nat) (a_refused : Nat) (a_hand : Nat) (a_outs : Nat) (a_order0 : Nat) (a_bestOrder : Nat) (a_tells : Nat) (a_bytes : Nat) (a_anew : Nat) (a_values : Nat)  (all : (Nat → Int32)) (above : Int64) (below_ : Int64) (bytesLong : Int32) (tokenAt : Int32) (tokenLong : Int32) (token : Int32) (value : Int32) : va_W := [(a_this, .inr (6, [.ref a_all, .ref a_kept, .ref a_isKept, .ref a_refused, .long above, .long below_, .ref a_hand, .ref a_outs, .ref a_order0, .ref a_bestOrder, .ref a_tells, .ref a_bytes, .int bytesLong, .int tokenAt, .int tokenLong, .int token, .int value, .ref a_anew, .ref a_values])), (a_all, .inl (cI, 250, .inl all))]
abbrev rm_X9_isOne : Room := { frames := 1, cells := 0, slots := 0, locals := 25 }
def f_X9_isOne  (all : (Nat → Int32))  (p1 : Int32) : Option (Int32) := ((f_X9_many all).bind fun q1 => ((f_X9_in (Int32.toInt64 p1) (0 : Int64) (Int32.toInt64 (q1 - (1 : Int32)))).bind fun q2 => (if q2 = 0 ∨ q2 = 1 then some (q2) else none)))
set_option maxHeartbeats 4000000 in
set_option maxRecDepth 100000 in
theorem c_X9_isOne (l : Launch) (D : va_G) (cI cB cZ : ClassId) (a_this : Nat) (a_all : Nat) (a_kept : Nat) (a_isKept : Nat) (a_refused : Nat) (a_hand : Nat) (a_outs : Nat) (a_order0 : Nat) (a_bestOrder : Nat) (a_tells : Nat) (a_bytes : Nat) (a_anew : Nat) (a_values : Nat) (all : (Nat → Int32)) (above : Int64) (below_ : Int64) (bytesLong : Int32) (tokenAt : Int32) (tokenLong : Int32) (token : Int32) (value : Int32) (p1 : Int32) (rv : Int32) (sz : Nat) (hf : f_X9_isOne all p1 = some rv) : Met l yX9_isOne wsX9_isOne rm_X9_isOne (sPc D vwCl (s_tys cI cB cZ) [.ref a_this, .int p1] (wd_X9_isOne cI cB cZ a_this a_all a_kept a_isKept a_refused a_hand a_outs a_order0 a_bestOrder a_tells a_bytes a_anew a_values all above below_ bytesLong tokenAt tokenLong token value) sz) (sQi D vwCl (wd_X9_isOne cI cB cZ a_this a_all a_kept a_isKept a_refused a_hand a_outs a_order0 a_bestOrder a_tells a_bytes a_anew a_values all above below_ bytesLong tokenAt tokenLong token value) (wd_X9_isOne cI cB cZ a_this a_all a_kept a_isKept a_refused a_hand a_outs a_order0 a_bestOrder a_tells a_bytes a_anew a_values all above below_ bytesLong tokenAt tokenLong token value) sz rv) 0 0 (va_A (wd_X9_isOne cI cB cZ a_this a_all a_kept a_isKept a_refused a_hand a_outs a_order0 a_bestOrder a_tells a_bytes a_anew a_values all above below_ bytesLong tokenAt tokenLong token value) sz) := by
  refine s_enter_z (cc := cX9_isOne) (nL := 2) (r := rv) (by decide) rfl (Nat.le_of_ble_eq_true rfl) ?_
  intro p e s m args below meth c A Q C0 hend ls hl hS
  have h := hf
  clear hf
  replace hl : lv_has ls 2 [(0, .ref a_this), (1, .int p1)] := hl
  unfold f_X9_isOne at h
  obtain ⟨hx, hb, hml, hown, hts, hK, hA⟩ := id C0
  refine lv_iload_n hx hb dX9_isOne_0 rfl (lv_at hl 1 rfl) ?_
  refine lv_i2l (v := (Int32.toInt64 p1)) hx hb dX9_isOne_1 rfl ?_
  refine lv_lconst (v := (0 : Int64)) hx hb dX9_isOne_2 (by decide) ?_
  refine lv_aload_n hx hb dX9_isOne_3 rfl (lv_at hl 0 rfl) ?_
  obtain ⟨q1, hq1, h⟩ := s_bind h
  refine u_calliV (r := q1) (As := []) (rest := [.long (0 : Int64), .long (Int32.toInt64 p1)]) (wc := (wd_X9_many cI cB cZ a_this a_all a_kept a_isKept a_refused a_hand a_outs a_order0 a_bestOrder a_tells a_bytes a_anew a_values all above below_ bytesLong tokenAt tokenLong token value)) hx hb hml hown hts hK hA hl hS (c_X9_many l D cI cB cZ a_this a_all a_kept a_isKept a_refused a_hand a_outs a_order0 a_bestOrder a_tells a_bytes a_anew a_values all above below_ bytesLong tokenAt tokenLong token value _ _ hq1) (cwV 0 hts gX9_isOne_X9_many rfl rfl rfl (by decide +kernel) ⟨Nat.le_of_ble_eq_true rfl, Nat.le_of_ble_eq_true rfl⟩) 0 rfl rfl [0, 1] rfl rfl rfl rfl (Nat.le_of_ble_eq_true rfl) dX9_isOne_4 (fun H locs hS => ?_)
  refine lv_iconst (v := (1 : Int32)) hx hb dX9_isOne_7 (by decide) ?_
  refine lv_isub hx hb dX9_isOne_8 ?_
  refine lv_i2l (v := (Int32.toInt64 (q1 - (1 : Int32)))) hx hb dX9_isOne_9 rfl ?_
  obtain ⟨q2, hq2, h⟩ := s_bind h
  refine u_calliS (r := q2) (As := [.long (Int32.toInt64 p1), .long (0 : Int64), .long (Int32.toInt64 (q1 - (1 : Int32)))]) (rest := []) (wc := ([] : va_W)) hx hb hml hown hts hK hA hl hS (c_X9_in l D cI cB cZ (Int32.toInt64 p1) (0 : Int64) (Int32.toInt64 (q1 - (1 : Int32))) _ _ hq2) (va_cwS 3 hts gX9_isOne_X9_in rfl rfl rfl (by decide +kernel) ⟨Nat.le_of_ble_eq_true rfl, Nat.le_of_ble_eq_true rfl⟩) [] rfl rfl rfl rfl (Nat.le_of_ble_eq_true rfl) dX9_isOne_10 (fun H locs hS => ?_)
  obtain ⟨g3, h⟩ := s_guard h
  obtain rfl := Option.some.inj h
  exact hend _ _ _ _ dX9_isOne_13 g3 hS

-- InnTurnedModel.isKind(I)Z
abbrev rm_X9_isKind : Room := { frames := 1, cells := 0, slots := 0, locals := 25 }
def f_X9_isKind    (p1 : Int32) : Option (Int32) := ((f_X9_in (Int32.toInt64 p1) (0 : Int64) (5 : Int64)).bind fun q1 => (if q1 = 0 ∨ q1 = 1 then some (q1) else none))
set_option maxHeartbeats 4000000 in
set_option maxRecDepth 100000 in
theorem c_X9_isKind (l : Launch) (D : va_G) (cI cB cZ : ClassId) (p1 : Int32) (rv : Int32) (sz : Nat) (hf : f_X9_isKind p1 = some rv) : Met l yX9_isKind wsX9_isKind rm_X9_isKind (sPc D vwCl (s_tys cI cB cZ) [.int p1] ([] : va_W) sz) (sQi D vwCl ([] : va_W) ([] : va_W) sz rv) 0 0 (va_A ([] : va_W) sz) := by
  refine s_enter_z (cc := cX9_isKind) (nL := 1) (r := rv) (by decide) rfl (Nat.le_of_ble_eq_true rfl) ?_
  intro p e s m args below meth c A Q C0 hend ls hl hS
  have h := hf
  clear hf
  replace hl : lv_has ls 1 [(0, .int p1)] := hl
  unfold f_X9_isKind at h
  obtain ⟨hx, hb, hml, hown, hts, hK, hA⟩ := id C0
  refine lv_iload_n hx hb dX9_isKind_0 rfl (lv_at hl 0 rfl) ?_
  refine lv_i2l (v := (Int32.toInt64 p1)) hx hb dX9_isKind_1 rfl ?_
  refine lv_lconst (v := (0 : Int64)) hx hb dX9_isKind_2 (by decide) ?_
  refine lv_ldc2 (v := (5 : Int64)) hx hb hown (hts (.constantLong RX9 63 (5)) (List.mem_of_getElem? (i := 1) rfl)) dX9_isKind_3 ?_
  obtain ⟨q1, hq1, h⟩ := s_bind h
  refine u_calliS (r := q1) (As := [.long (Int32.toInt64 p1), .long (0 : Int64), .long (5 : Int64)]) (rest := []) (wc := ([] : va_W)) hx hb hml hown hts hK hA hl hS (c_X9_in l D cI cB cZ (Int32.toInt64 p1) (0 : Int64) (5 : Int64) _ _ hq1) (va_cwS 3 hts gX9_isKind_X9_in rfl rfl rfl (by decide +kernel) ⟨Nat.le_of_ble_eq_true rfl, Nat.le_of_ble_eq_true rfl⟩) [] rfl rfl rfl rfl (Nat.le_of_ble_eq_true rfl) dX9_isKind_6 (fun H locs hS => ?_)
  obtain ⟨g2, h⟩ := s_guard h
  obtain rfl := Option.some.inj h
  exact hend _ _ _ _ dX9_isKind_9 g2 hS

-- InnTurnedModel.isWord(I)Z
abbrev rm_X9_isWord : Room := { frames := 1, cells := 0, slots := 0, locals := 25 }
def f_X9_isWord    (p1 : Int32) : Option (Int32) := ((f_X9_in (Int32.toInt64 p1) (0 : Int64) (9 : Int64)).bind fun q1 => (if q1 = 0 ∨ q1 = 1 then some (q1) else none))
set_option maxHeartbeats 4000000 in
set_option maxRecDepth 100000 in
theorem c_X9_isWord (l : Launch) (D : va_G) (cI cB cZ : ClassId) (p1 : Int32) (rv : Int32) (sz : Nat) (hf : f_X9_isWord p1 = some rv) : Met l yX9_isWord wsX9_isWord rm_X9_isWord (sPc D vwCl (s_tys cI cB cZ) [.int p1] ([] : va_W) sz) (sQi D vwCl ([] : va_W) ([] : va_W) sz rv) 0 0 (va_A ([] : va_W) sz) := by
  refine s_enter_z (cc := cX9_isWord) (nL := 1) (r := rv) (by decide) rfl (Nat.le_of_ble_eq_true rfl) ?_
  intro p e s m args below meth c A Q C0 hend ls hl hS
  have h := hf
  clear hf
  replace hl : lv_has ls 1 [(0, .int p1)] := hl
  unfold f_X9_isWord at h
  obtain ⟨hx, hb, hml, hown, hts, hK, hA⟩ := id C0
  refine lv_iload_n hx hb dX9_isWord_0 rfl (lv_at hl 0 rfl) ?_
  refine lv_i2l (v := (Int32.toInt64 p1)) hx hb dX9_isWord_1 rfl ?_
  refine lv_lconst (v := (0 : Int64)) hx hb dX9_isWord_2 (by decide) ?_
  refine lv_ldc2 (v := (9 : Int64)) hx hb hown (hts (.constantLong RX9 65 (9)) (List.mem_of_getElem? (i := 1) rfl)) dX9_isWord_3 ?_
  obtain ⟨q1, hq1, h⟩ := s_bind h
  refine u_calliS (r := q1) (As := [.long (Int32.toInt64 p1), .long (0 : Int64), .long (9 : Int64)]) (rest := []) (wc := ([] : va_W)) hx hb hml hown hts hK hA hl hS (c_X9_in l D cI cB cZ (Int32.toInt64 p1) (0 : Int64) (9 : Int64) _ _ hq1) (va_cwS 3 hts gX9_isWord_X9_in rfl rfl rfl (by decide +kernel) ⟨Nat.le_of_ble_eq_true rfl, Nat.le_of_ble_eq_true rfl⟩) [] rfl rfl rfl rfl (Nat.le_of_ble_eq_true rfl) dX9_isWord_6 (fun H locs hS => ?_)
  obtain ⟨g2, h⟩ := s_guard h
  obtain rfl := Option.some.inj h
  exact hend _ _ _ _ dX9_isWord_9 g2 hS

-- InnTurnedModel.isWet(I)Z
abbrev rm_X9_isWet : Room := { frames := 1, cells := 0, slots := 0, locals := 25 }
def f_X9_isWet    (p1 : Int32) : Option (Int32) := ((f_X9_in (Int32.toInt64 p1) (0 : Int64) (4 : Int64)).bind fun q1 => (if q1 = 0 ∨ q1 = 1 then some (q1) else none))
set_option maxHeartbeats 4000000 in
set_option maxRecDepth 100000 in
theorem c_X9_isWet (l : Launch) (D : va_G) (cI cB cZ : ClassId) (p1 : Int32) (rv : Int32) (sz : Nat) (hf : f_X9_isWet p1 = some rv) : Met l yX9_isWet wsX9_isWet rm_X9_isWet (sPc D vwCl (s_tys cI cB cZ) [.int p1] ([] : va_W) sz) (sQi D vwCl ([] : va_W) ([] : va_W) sz rv) 0 0 (va_A ([] : va_W) sz) := by
  refine s_enter_z (cc := cX9_isWet) (nL := 1) (r := rv) (by decide) rfl (Nat.le_of_ble_eq_true rfl) ?_
  intro p e s m args below meth c A Q C0 hend ls hl hS
  have h := hf
  clear hf
  replace hl : lv_has ls 1 [(0, .int p1)] := hl
  unfold f_X9_isWet at h
  obtain ⟨hx, hb, hml, hown, hts, hK, hA⟩ := id C0
  refine lv_iload_n hx hb dX9_isWet_0 rfl (lv_at hl 0 rfl) ?_
  refine lv_i2l (v := (Int32.toInt64 p1)) hx hb dX9_isWet_1 rfl ?_
  refine lv_lconst (v := (0 : Int64)) hx hb dX9_isWet_2 (by decide) ?_
  refine lv_ldc2 (v := (4 : Int64)) hx hb hown (hts (.constantLong RX9 67 (4)) (List.mem_of_getElem? (i := 1) rfl)) dX9_isWet_3 ?_
  obtain ⟨q1, hq1, h⟩ := s_bind h
  refine u_calliS (r := q1) (As := [.long (Int32.toInt64 p1), .long (0 : Int64), .long (4 : Int64)]) (rest := []) (wc := ([] : va_W)) hx hb hml hown hts hK hA hl hS (c_X9_in l D cI cB cZ (Int32.toInt64 p1) (0 : Int64) (4 : Int64) _ _ hq1) (va_cwS 3 hts gX9_isWet_X9_in rfl rfl rfl (by decide +kernel) ⟨Nat.le_of_ble_eq_true rfl, Nat.le_of_ble_eq_true rfl⟩) [] rfl rfl rfl rfl (Nat.le_of_ble_eq_true rfl) dX9_isWet_6 (fun H locs hS => ?_)
  obtain ⟨g2, h⟩ := s_guard h
  obtain rfl := Option.some.inj h
  exact hend _ _ _ _ dX9_isWet_9 g2 hS

-- InnTurnedModel.inn(II)I
def wd_X9_inn (cI cB cZ : ClassId) (a_this : Nat) (a_all : Nat) (a_kept : Nat) (a_isKept : Nat) (a_refused : Nat) (a_hand : Nat) (a_outs : Nat) (a_order0 : Nat) (a_bestOrder : Nat) (a_tells : Nat) (a_bytes : Nat) (a_anew : Nat) (a_values : Nat)  (all : (Nat → Int32)) (refused : (Nat → Int32)) (above : Int64) (below_ : Int64) (bytesLong : Int32) (tokenAt : Int32) (tokenLong : Int32) (token : Int32) (value : Int32) : va_W := [(a_this, .inr (6, [.ref a_all, .ref a_kept, .ref a_isKept, .ref a_refused, .long above, .long below_, .ref a_hand, .ref a_outs, .ref a_order0, .ref a_bestOrder, .ref a_tells, .ref a_bytes, .int bytesLong, .int tokenAt, .int tokenLong, .int token, .int value, .ref a_anew, .ref a_values])), (a_all, .inl (cI, 250, .inl all)), (a_refused, .inl (cI, 3, .inl refused))]
abbrev rm_X9_inn : Room := { frames := 2, cells := 0, slots := 0, locals := 45 }
set_option maxRecDepth 20000 in
theorem inX9_X9_inn : ∀ w ∈ u_ws RX9 TX9 19, w ∈ wsX9_inn := by decide +kernel
def f_X9_inn_b19   (all : (Nat → Int32)) (refused : (Nat → Int32)) : Option (Int32 × (Nat → Int32) × (Nat → Int32)) := ((f_X9_bad refused (-2 : Int32)).bind fun q1 => some (q1.1, all, q1.2))
set_option maxHeartbeats 4000000 in
set_option maxRecDepth 100000 in
theorem w_X9_inn_b19 {p : Program} {l : Launch} {e : Env} {s : State} {m : MethodId} {args : Array Value} {below : List Frame} {meth : Method} {c : Code} {A : Nat → Prop} {Q : State → Prop} {D : va_G} {cI cB cZ : ClassId} {a_this a_all a_kept a_isKept a_refused a_hand a_outs a_order0 a_bestOrder a_tells a_bytes a_anew a_values : Nat} {above : Int64} {below_ : Int64} {bytesLong : Int32} {tokenAt : Int32} {tokenLong : Int32} {token : Int32} {value : Int32} (C0 : Cx p s m args c cX9_inn 4 RX9 wsX9_inn D (s_tys cI cB cZ) A) {rv : Int32 × (Nat → Int32) × (Nat → Int32)} (hend : ∀ (pc : Nat) (H : Heap) (locs : List Loc) (ls : Array Slot), decode cX9_inn pc = .ok (.ireturn, 1) → sS D vwCl A s.heap (wd_X9_inn cI cB cZ a_this a_all a_kept a_isKept a_refused a_hand a_outs a_order0 a_bestOrder a_tells a_bytes a_anew a_values rv.2.1 rv.2.2 above below_ bytesLong tokenAt tokenLong token value) H locs → W p l e rm_X9_inn s m args below meth c H locs 0 0 Q (F0 m pc ls [.int rv.1])) : ∀ (all : (Nat → Int32)) (refused : (Nat → Int32)) (H : Heap) (locs : List Loc) (ls : Array Slot), f_X9_inn_b19  all refused = some rv → sS D vwCl A s.heap (wd_X9_inn cI cB cZ a_this a_all a_kept a_isKept a_refused a_hand a_outs a_order0 a_bestOrder a_tells a_bytes a_anew a_values all refused above below_ bytesLong tokenAt tokenLong token value) H locs → lv_has ls 4 [(0, .ref a_this)] → W p l e rm_X9_inn s m args below meth c H locs 0 0 Q (F0 m 19 ls []) := by
  obtain ⟨hx, hb, hml, hown, hts, hK, hA⟩ := id C0
  have inX9 : ∀ w ∈ u_ws RX9 TX9 19, w ∈ wsX9_inn := inX9_X9_inn
  intro all refused H locs ls h hS hl
  unfold f_X9_inn_b19 at h
  refine lv_aload_n hx hb dX9_inn_19 rfl (lv_at hl 0 rfl) ?_
  refine lv_bipush (v := (-2 : Int32)) hx hb dX9_inn_20 (by decide) ?_
  obtain ⟨q1, hq1, h⟩ := s_bind h
  refine r_calliV (r := q1.1) (As := [.int (-2 : Int32)]) (rest := []) (wc := (wd_X9_bad cI cB cZ a_this a_all a_kept a_isKept a_refused a_hand a_outs a_order0 a_bestOrder a_tells a_bytes a_anew a_values refused above below_ bytesLong tokenAt tokenLong token value)) (w1 := (wd_X9_bad cI cB cZ a_this a_all a_kept a_isKept a_refused a_hand a_outs a_order0 a_bestOrder a_tells a_bytes a_anew a_values q1.2 above below_ bytesLong tokenAt tokenLong token value)) (ws' := (wd_X9_inn cI cB cZ a_this a_all a_kept a_isKept a_refused a_hand a_outs a_order0 a_bestOrder a_tells a_bytes a_anew a_values all q1.2 above below_ bytesLong tokenAt tokenLong token value)) hx hb hml hown hts hK hA hl hS (c_X9_bad l D cI cB cZ a_this a_all a_kept a_isKept a_refused a_hand a_outs a_order0 a_bestOrder a_tells a_bytes a_anew a_values refused above below_ bytesLong tokenAt tokenLong token value (-2 : Int32) _ _ hq1) (cwV 1 hts gX9_inn_X9_bad rfl rfl rfl (by decide +kernel) ⟨Nat.le_of_ble_eq_true rfl, Nat.le_of_ble_eq_true rfl⟩) 0 rfl rfl [0, 2] rfl rfl rfl [.inr 0, .inl 1, .inr 1] rfl rfl rfl rfl (Nat.le_of_ble_eq_true rfl) dX9_inn_22 (fun H locs hS => ?_)
  obtain rfl := Option.some.inj h
  exact hend _ _ _ _ dX9_inn_25 hS
def f_X9_inn   (all : (Nat → Int32)) (refused : (Nat → Int32)) (p1 : Int32) (p2 : Int32) : Option (Int32 × (Nat → Int32) × (Nat → Int32)) := ((f_X9_isKind p1).bind fun q2 => (if q2 = 0 then f_X9_inn_b19   all refused else ((f_X9_in (Int32.toInt64 p2) (0 : Int64) (7 : Int64)).bind fun q4 => (if q4 = 0 then f_X9_inn_b19   all refused else ((f_X9_many all).bind fun q6 => ((f_X9_begin 250 all p1 p2).bind fun q7 => some (q6, q7, refused)))))))
set_option maxHeartbeats 4000000 in
set_option maxRecDepth 100000 in
theorem c_X9_inn (l : Launch) (D : va_G) (cI cB cZ : ClassId) (a_this : Nat) (a_all : Nat) (a_kept : Nat) (a_isKept : Nat) (a_refused : Nat) (a_hand : Nat) (a_outs : Nat) (a_order0 : Nat) (a_bestOrder : Nat) (a_tells : Nat) (a_bytes : Nat) (a_anew : Nat) (a_values : Nat) (all : (Nat → Int32)) (refused : (Nat → Int32)) (above : Int64) (below_ : Int64) (bytesLong : Int32) (tokenAt : Int32) (tokenLong : Int32) (token : Int32) (value : Int32) (p1 : Int32) (p2 : Int32) (rv : Int32 × (Nat → Int32) × (Nat → Int32)) (sz : Nat) (hf : f_X9_inn all refused p1 p2 = some rv) : Met l yX9_inn wsX9_inn rm_X9_inn (sPc D vwCl (s_tys cI cB cZ) [.ref a_this, .int p1, .int p2] (wd_X9_inn cI cB cZ a_this a_all a_kept a_isKept a_refused a_hand a_outs a_order0 a_bestOrder a_tells a_bytes a_anew a_values all refused above below_ bytesLong tokenAt tokenLong token value) sz) (sQi D vwCl (wd_X9_inn cI cB cZ a_this a_all a_kept a_isKept a_refused a_hand a_outs a_order0 a_bestOrder a_tells a_bytes a_anew a_values all refused above below_ bytesLong tokenAt tokenLong token value) (wd_X9_inn cI cB cZ a_this a_all a_kept a_isKept a_refused a_hand a_outs a_order0 a_bestOrder a_tells a_bytes a_anew a_values rv.2.1 rv.2.2 above below_ bytesLong tokenAt tokenLong token value) sz rv.1) 0 0 (va_A (wd_X9_inn cI cB cZ a_this a_all a_kept a_isKept a_refused a_hand a_outs a_order0 a_bestOrder a_tells a_bytes a_anew a_values all refused above below_ bytesLong tokenAt tokenLong token value) sz) := by
  refine s_enter_n (cc := cX9_inn) (nL := 4) (r := rv.1) (by decide) rfl (Nat.le_of_ble_eq_true rfl) ?_
  intro p e s m args below meth c A Q C0 hend ls hl hS
  have h := hf
  clear hf
  replace hl : lv_has ls 4 [(0, .ref a_this), (1, .int p1), (2, .int p2)] := hl
  unfold f_X9_inn at h
  obtain ⟨hx, hb, hml, hown, hts, hK, hA⟩ := id C0
  have inX9 : ∀ w ∈ u_ws RX9 TX9 19, w ∈ wsX9_inn := inX9_X9_inn
  refine lv_iload_n hx hb dX9_inn_0 rfl (lv_at hl 1 rfl) ?_
  obtain ⟨q2, hq2, h⟩ := s_bind h
  refine u_calliS (r := q2) (As := [.int p1]) (rest := []) (wc := ([] : va_W)) hx hb hml hown hts hK hA hl hS (c_X9_isKind l D cI cB cZ p1 _ _ hq2) (va_cwS 1 hts gX9_inn_X9_isKind rfl rfl rfl (by decide +kernel) ⟨Nat.le_of_ble_eq_true rfl, Nat.le_of_ble_eq_true rfl⟩) [] rfl rfl rfl rfl (Nat.le_of_ble_eq_true rfl) dX9_inn_1 (fun H locs hS => ?_)
  refine lv_if_eq (tgt := 19) hx hb dX9_inn_4 (by decide) (fun c3 => ?_) (fun c3 => ?_)
  · replace h := s_yes c3 h
    exact w_X9_inn_b19 C0 hend  all refused _ _ _ h hS (lv_sub hl [0] rfl)
  replace h := s_no c3 h
  refine lv_iload_n hx hb dX9_inn_7 rfl (lv_at hl 2 rfl) ?_
  refine lv_i2l (v := (Int32.toInt64 p2)) hx hb dX9_inn_8 rfl ?_
  refine lv_lconst (v := (0 : Int64)) hx hb dX9_inn_9 (by decide) ?_
  refine lv_ldc2 (v := (7 : Int64)) hx hb hown (hts (.constantLong RX9 73 (7)) (List.mem_of_getElem? (i := 1) rfl)) dX9_inn_10 ?_
  obtain ⟨q4, hq4, h⟩ := s_bind h
  refine u_calliS (r := q4) (As := [.long (Int32.toInt64 p2), .long (0 : Int64), .long (7 : Int64)]) (rest := []) (wc := ([] : va_W)) hx hb hml hown hts hK hA hl hS (c_X9_in l D cI cB cZ (Int32.toInt64 p2) (0 : Int64) (7 : Int64) _ _ hq4) (va_cwS 3 hts gX9_inn_X9_in rfl rfl rfl (by decide +kernel) ⟨Nat.le_of_ble_eq_true rfl, Nat.le_of_ble_eq_true rfl⟩) [] rfl rfl rfl rfl (Nat.le_of_ble_eq_true rfl) dX9_inn_13 (fun H locs hS => ?_)
  refine lv_if_ne (tgt := 26) hx hb dX9_inn_16 (by decide) (fun c5 => ?_) (fun c5 => ?_)
  · replace h := s_no c5 h
    refine lv_aload_n hx hb dX9_inn_26 rfl (lv_at hl 0 rfl) ?_
    obtain ⟨q6, hq6, h⟩ := s_bind h
    refine u_calliV (r := q6) (As := []) (rest := []) (wc := (wd_X9_many cI cB cZ a_this a_all a_kept a_isKept a_refused a_hand a_outs a_order0 a_bestOrder a_tells a_bytes a_anew a_values all above below_ bytesLong tokenAt tokenLong token value)) hx hb hml hown hts hK hA hl hS (c_X9_many l D cI cB cZ a_this a_all a_kept a_isKept a_refused a_hand a_outs a_order0 a_bestOrder a_tells a_bytes a_anew a_values all above below_ bytesLong tokenAt tokenLong token value _ _ hq6) (cwV 0 hts gX9_inn_X9_many rfl rfl rfl (by decide +kernel) ⟨Nat.le_of_ble_eq_true rfl, Nat.le_of_ble_eq_true rfl⟩) 0 rfl rfl [0, 1] rfl rfl rfl rfl (Nat.le_of_ble_eq_true rfl) dX9_inn_27 (fun H locs hS => ?_)
    refine lv_istore_n (lv' := [(3, .int q6), (0, .ref a_this), (1, .int p1), (2, .int p2)]) hx hb dX9_inn_30 rfl hl (by decide) rfl (fun ls hl => ?_)
    refine lv_aload_n hx hb dX9_inn_31 rfl (lv_at hl 1 rfl) ?_
    refine s_get (C := RX9) (T := TX9) (N := 19) hx hb hts inX9 hown hK hS 0 rfl rfl 0 (by decide) (hts (.fieldLink RX9 7 "InnTurnedModel" "all" "[I") (List.mem_of_getElem? (i := 2) rfl)) rfl rfl dX9_inn_32 ?_
    refine lv_iload_n hx hb dX9_inn_35 rfl (lv_at hl 2 rfl) ?_
    refine lv_iload_n hx hb dX9_inn_36 rfl (lv_at hl 3 rfl) ?_
    obtain ⟨q7, hq7, h⟩ := s_bind h
    refine r_callvS (As := [.ref a_all, .int p1, .int p2]) (rest := []) (wc := (wd_X9_begin cI cB cZ a_all 250 all)) (w1 := (wd_X9_begin cI cB cZ a_all 250 q7)) (ws' := (wd_X9_inn cI cB cZ a_this a_all a_kept a_isKept a_refused a_hand a_outs a_order0 a_bestOrder a_tells a_bytes a_anew a_values q7 refused above below_ bytesLong tokenAt tokenLong token value)) hx hb hml hown hts hK hA hl hS (c_X9_begin l D cI cB cZ a_all 250 all p1 p2 _ _ hq7) (va_cwS 3 hts gX9_inn_X9_begin rfl rfl rfl (by decide +kernel) ⟨Nat.le_of_ble_eq_true rfl, Nat.le_of_ble_eq_true rfl⟩) [1] rfl rfl rfl [.inl 0, .inr 0, .inl 2] rfl rfl rfl rfl (Nat.le_of_ble_eq_true rfl) dX9_inn_37 (fun H locs hS => ?_)
    refine lv_iload_n hx hb dX9_inn_40 rfl (lv_at hl 0 rfl) ?_
    obtain rfl := Option.some.inj h
    exact hend _ _ _ _ dX9_inn_41 hS
  replace h := s_yes c5 h
  exact w_X9_inn_b19 C0 hend  all refused _ _ _ h hS (lv_sub hl [0] rfl)

-- InnTurnedModel.landlord(I)I
def wd_X9_landlord (cI cB cZ : ClassId) (a_this : Nat) (a_all : Nat) (a_kept : Nat) (a_isKept : Nat) (a_refused : Nat) (a_hand : Nat) (a_outs : Nat) (a_order0 : Nat) (a_bestOrder : Nat) (a_tells : Nat) (a_bytes : Nat) (a_anew : Nat) (a_values : Nat)  (all : (Nat → Int32)) (refused : (Nat → Int32)) (above : Int64) (below_ : Int64) (bytesLong : Int32) (tokenAt : Int32) (tokenLong : Int32) (token : Int32) (value : Int32) : va_W := [(a_this, .inr (6, [.ref a_all, .ref a_kept, .ref a_isKept, .ref a_refused, .long above, .long below_, .ref a_hand, .ref a_outs, .ref a_order0, .ref a_bestOrder, .ref a_tells, .ref a_bytes, .int bytesLong, .int tokenAt, .int tokenLong, .int token, .int value, .ref a_anew, .ref a_values])), (a_all, .inl (cI, 250, .inl all)), (a_refused, .inl (cI, 3, .inl refused))]
abbrev rm_X9_landlord : Room := { frames := 2, cells := 0, slots := 0, locals := 45 }
set_option maxRecDepth 20000 in
theorem inX9_X9_landlord : ∀ w ∈ u_ws RX9 TX9 19, w ∈ wsX9_landlord := by decide +kernel
def f_X9_landlord   (all : (Nat → Int32)) (refused : (Nat → Int32)) (p1 : Int32) : Option (Int32 × (Nat → Int32) × (Nat → Int32)) := ((f_X9_isKind p1).bind fun q1 => (if q1 = 0 then ((f_X9_bad refused (-2 : Int32)).bind fun q3 => some (q3.1, all, q3.2)) else some ((all (Int32.toNatClampNeg (23 : Int32))), (upd (upd all (Int32.toNatClampNeg (23 : Int32)) p1) (Int32.toNatClampNeg (4 : Int32)) (0 : Int32)), refused)))
set_option maxHeartbeats 4000000 in
set_option maxRecDepth 100000 in
theorem c_X9_landlord (l : Launch) (D : va_G) (cI cB cZ : ClassId) (a_this : Nat) (a_all : Nat) (a_kept : Nat) (a_isKept : Nat) (a_refused : Nat) (a_hand : Nat) (a_outs : Nat) (a_order0 : Nat) (a_bestOrder : Nat) (a_tells : Nat) (a_bytes : Nat) (a_anew : Nat) (a_values : Nat) (all : (Nat → Int32)) (refused : (Nat → Int32)) (above : Int64) (below_ : Int64) (bytesLong : Int32) (tokenAt : Int32) (tokenLong : Int32) (token : Int32) (value : Int32) (p1 : Int32) (rv : Int32 × (Nat → Int32) × (Nat → Int32)) (sz : Nat) (hf : f_X9_landlord all refused p1 = some rv) : Met l yX9_landlord wsX9_landlord rm_X9_landlord (sPc D vwCl (s_tys cI cB cZ) [.ref a_this, .int p1] (wd_X9_landlord cI cB cZ a_this a_all a_kept a_isKept a_refused a_hand a_outs a_order0 a_bestOrder a_tells a_bytes a_anew a_values all refused above below_ bytesLong tokenAt tokenLong token value) sz) (sQi D vwCl (wd_X9_landlord cI cB cZ a_this a_all a_kept a_isKept a_refused a_hand a_outs a_order0 a_bestOrder a_tells a_bytes a_anew a_values all refused above below_ bytesLong tokenAt tokenLong token value) (wd_X9_landlord cI cB cZ a_this a_all a_kept a_isKept a_refused a_hand a_outs a_order0 a_bestOrder a_tells a_bytes a_anew a_values rv.2.1 rv.2.2 above below_ bytesLong tokenAt tokenLong token value) sz rv.1) 0 0 (va_A (wd_X9_landlord cI cB cZ a_this a_all a_kept a_isKept a_refused a_hand a_outs a_order0 a_bestOrder a_tells a_bytes a_anew a_values all refused above below_ bytesLong tokenAt tokenLong token value) sz) := by
  refine s_enter_n (cc := cX9_landlord) (nL := 3) (r := rv.1) (by decide) rfl (Nat.le_of_ble_eq_true rfl) ?_
  intro p e s m args below meth c A Q C0 hend ls hl hS
  have h := hf
  clear hf
  replace hl : lv_has ls 3 [(0, .ref a_this), (1, .int p1)] := hl
  unfold f_X9_landlord at h
  obtain ⟨hx, hb, hml, hown, hts, hK, hA⟩ := id C0
  have inX9 : ∀ w ∈ u_ws RX9 TX9 19, w ∈ wsX9_landlord := inX9_X9_landlord
  refine lv_iload_n hx hb dX9_landlord_0 rfl (lv_at hl 1 rfl) ?_
  obtain ⟨q1, hq1, h⟩ := s_bind h
  refine u_calliS (r := q1) (As := [.int p1]) (rest := []) (wc := ([] : va_W)) hx hb hml hown hts hK hA hl hS (c_X9_isKind l D cI cB cZ p1 _ _ hq1) (va_cwS 1 hts gX9_landlord_X9_isKind rfl rfl rfl (by decide +kernel) ⟨Nat.le_of_ble_eq_true rfl, Nat.le_of_ble_eq_true rfl⟩) [] rfl rfl rfl rfl (Nat.le_of_ble_eq_true rfl) dX9_landlord_1 (fun H locs hS => ?_)
  refine lv_if_ne (tgt := 14) hx hb dX9_landlord_4 (by decide) (fun c2 => ?_) (fun c2 => ?_)
  · replace h := s_no c2 h
    refine lv_aload_n hx hb dX9_landlord_14 rfl (lv_at hl 0 rfl) ?_
    refine s_get (C := RX9) (T := TX9) (N := 19) hx hb hts inX9 hown hK hS 0 rfl rfl 0 (by decide) (hts (.fieldLink RX9 7 "InnTurnedModel" "all" "[I") (List.mem_of_getElem? (i := 1) rfl)) rfl rfl dX9_landlord_15 ?_
    refine lv_bipush (v := (23 : Int32)) hx hb dX9_landlord_18 (by decide) ?_
    refine s_iald hx hb hK hS 1 rfl rfl (by decide) dX9_landlord_20 ?_
    refine lv_istore_n (lv' := [(2, .int (all (Int32.toNatClampNeg (23 : Int32)))), (0, .ref a_this), (1, .int p1)]) hx hb dX9_landlord_21 rfl hl (by decide) rfl (fun ls hl => ?_)
    refine lv_aload_n hx hb dX9_landlord_22 rfl (lv_at hl 1 rfl) ?_
    refine s_get (C := RX9) (T := TX9) (N := 19) hx hb hts inX9 hown hK hS 0 rfl rfl 0 (by decide) (hts (.fieldLink RX9 7 "InnTurnedModel" "all" "[I") (List.mem_of_getElem? (i := 1) rfl)) rfl rfl dX9_landlord_23 ?_
    refine lv_bipush (v := (23 : Int32)) hx hb dX9_landlord_26 (by decide) ?_
    refine lv_iload_n hx hb dX9_landlord_28 rfl (lv_at hl 2 rfl) ?_
    refine s_iast (ws' := (wd_X9_landlord cI cB cZ a_this a_all a_kept a_isKept a_refused a_hand a_outs a_order0 a_bestOrder a_tells a_bytes a_anew a_values (upd all (Int32.toNatClampNeg (23 : Int32)) p1) refused above below_ bytesLong tokenAt tokenLong token value)) hx hb hK hS 1 rfl rfl (by decide) rfl dX9_landlord_29 (fun H locs hS => ?_)
    refine lv_aload_n hx hb dX9_landlord_30 rfl (lv_at hl 1 rfl) ?_
    refine s_get (C := RX9) (T := TX9) (N := 19) hx hb hts inX9 hown hK hS 0 rfl rfl 0 (by decide) (hts (.fieldLink RX9 7 "InnTurnedModel" "all" "[I") (List.mem_of_getElem? (i := 1) rfl)) rfl rfl dX9_landlord_31 ?_
    refine lv_iconst (v := (4 : Int32)) hx hb dX9_landlord_34 (by decide) ?_
    refine lv_iconst (v := (0 : Int32)) hx hb dX9_landlord_35 (by decide) ?_
    refine s_iast (ws' := (wd_X9_landlord cI cB cZ a_this a_all a_kept a_isKept a_refused a_hand a_outs a_order0 a_bestOrder a_tells a_bytes a_anew a_values (upd (upd all (Int32.toNatClampNeg (23 : Int32)) p1) (Int32.toNatClampNeg (4 : Int32)) (0 : Int32)) refused above below_ bytesLong tokenAt tokenLong token value)) hx hb hK hS 1 rfl rfl (by decide) rfl dX9_landlord_36 (fun H locs hS => ?_)
    refine lv_iload_n hx hb dX9_landlord_37 rfl (lv_at hl 0 rfl) ?_
    obtain rfl := Option.some.inj h
    exact hend _ _ _ _ dX9_landlord_38 hS
  replace h := s_yes c2 h
  refine lv_aload_n hx hb dX9_landlord_7 rfl (lv_at hl 0 rfl) ?_
  refine lv_bipush (v := (-2 : Int32)) hx hb dX9_landlord_8 (by decide) ?_
  obtain ⟨q3, hq3, h⟩ := s_bind h
  refine r_calliV (r := q3.1) (As := [.int (-2 : Int32)]) (rest := []) (wc := (wd_X9_bad cI cB cZ a_this a_all a_kept a_isKept a_refused a_hand a_outs a_order0 a_bestOrder a_tells a_bytes a_anew a_values refused above below_ bytesLong tokenAt tokenLong token value)) (w1 := (wd_X9_bad cI cB cZ a_this a_all a_kept a_isKept a_refused a_hand a_outs a_order0 a_bestOrder a_tells a_bytes a_anew a_values q3.2 above below_ bytesLong tokenAt tokenLong token value)) (ws' := (wd_X9_landlord cI cB cZ a_this a_all a_kept a_isKept a_refused a_hand a_outs a_order0 a_bestOrder a_tells a_bytes a_anew a_values all q3.2 above below_ bytesLong tokenAt tokenLong token value)) hx hb hml hown hts hK hA hl hS (c_X9_bad l D cI cB cZ a_this a_all a_kept a_isKept a_refused a_hand a_outs a_order0 a_bestOrder a_tells a_bytes a_anew a_values refused above below_ bytesLong tokenAt tokenLong token value (-2 : Int32) _ _ hq3) (cwV 1 hts gX9_landlord_X9_bad rfl rfl rfl (by decide +kernel) ⟨Nat.le_of_ble_eq_true rfl, Nat.le_of_ble_eq_true rfl⟩) 0 rfl rfl [0, 2] rfl rfl rfl [.inr 0, .inl 1, .inr 1] rfl rfl rfl rfl (Nat.le_of_ble_eq_true rfl) dX9_landlord_10 (fun H locs hS => ?_)
  obtain rfl := Option.some.inj h
  exact hend _ _ _ _ dX9_landlord_13 hS

-- InnTurnedModel.wet(II)I
def wd_X9_wet (cI cB cZ : ClassId) (a_this : Nat) (a_all : Nat) (a_kept : Nat) (a_isKept : Nat) (a_refused : Nat) (a_hand : Nat) (a_outs : Nat) (a_order0 : Nat) (a_bestOrder : Nat) (a_tells : Nat) (a_bytes : Nat) (a_anew : Nat) (a_values : Nat)  (all : (Nat → Int32)) (refused : (Nat → Int32)) (above : Int64) (below_ : Int64) (bytesLong : Int32) (tokenAt : Int32) (tokenLong : Int32) (token : Int32) (value : Int32) : va_W := [(a_this, .inr (6, [.ref a_all, .ref a_kept, .ref a_isKept, .ref a_refused, .long above, .long below_, .ref a_hand, .ref a_outs, .ref a_order0, .ref a_bestOrder, .ref a_tells, .ref a_bytes, .int bytesLong, .int tokenAt, .int tokenLong, .int token, .int value, .ref a_anew, .ref a_values])), (a_all, .inl (cI, 250, .inl all)), (a_refused, .inl (cI, 3, .inl refused))]
abbrev rm_X9_wet : Room := { frames := 2, cells := 0, slots := 0, locals := 45 }
set_option maxRecDepth 20000 in
theorem inX9_X9_wet : ∀ w ∈ u_ws RX9 TX9 19, w ∈ wsX9_wet := by decide +kernel
def f_X9_wet_b19   (all : (Nat → Int32)) (refused : (Nat → Int32)) : Option (Int32 × (Nat → Int32) × (Nat → Int32)) := ((f_X9_bad refused (-2 : Int32)).bind fun q1 => some (q1.1, all, q1.2))
set_option maxHeartbeats 4000000 in
set_option maxRecDepth 100000 in
theorem w_X9_wet_b19 {p : Program} {l : Launch} {e : Env} {s : State} {m : MethodId} {args : Array Value} {below : List Frame} {meth : Method} {c : Code} {A : Nat → Prop} {Q : State → Prop} {D : va_G} {cI cB cZ : ClassId} {a_this a_all a_kept a_isKept a_refused a_hand a_outs a_order0 a_bestOrder a_tells a_bytes a_anew a_values : Nat} {above : Int64} {below_ : Int64} {bytesLong : Int32} {tokenAt : Int32} {tokenLong : Int32} {token : Int32} {value : Int32} (C0 : Cx p s m args c cX9_wet 4 RX9 wsX9_wet D (s_tys cI cB cZ) A) {rv : Int32 × (Nat → Int32) × (Nat → Int32)} (hend : ∀ (pc : Nat) (H : Heap) (locs : List Loc) (ls : Array Slot), decode cX9_wet pc = .ok (.ireturn, 1) → sS D vwCl A s.heap (wd_X9_wet cI cB cZ a_this a_all a_kept a_isKept a_refused a_hand a_outs a_order0 a_bestOrder a_tells a_bytes a_anew a_values rv.2.1 rv.2.2 above below_ bytesLong tokenAt tokenLong token value) H locs → W p l e rm_X9_wet s m args below meth c H locs 0 0 Q (F0 m pc ls [.int rv.1])) : ∀ (all : (Nat → Int32)) (refused : (Nat → Int32)) (H : Heap) (locs : List Loc) (ls : Array Slot), f_X9_wet_b19  all refused = some rv → sS D vwCl A s.heap (wd_X9_wet cI cB cZ a_this a_all a_kept a_isKept a_refused a_hand a_outs a_order0 a_bestOrder a_tells a_bytes a_anew a_values all refused above below_ bytesLong tokenAt tokenLong token value) H locs → lv_has ls 4 [(0, .ref a_this)] → W p l e rm_X9_wet s m args below meth c H locs 0 0 Q (F0 m 19 ls []) := by
  obtain ⟨hx, hb, hml, hown, hts, hK, hA⟩ := id C0
  have inX9 : ∀ w ∈ u_ws RX9 TX9 19, w ∈ wsX9_wet := inX9_X9_wet
  intro all refused H locs ls h hS hl
  unfold f_X9_wet_b19 at h
  refine lv_aload_n hx hb dX9_wet_19 rfl (lv_at hl 0 rfl) ?_
  refine lv_bipush (v := (-2 : Int32)) hx hb dX9_wet_20 (by decide) ?_
  obtain ⟨q1, hq1, h⟩ := s_bind h
  refine r_calliV (r := q1.1) (As := [.int (-2 : Int32)]) (rest := []) (wc := (wd_X9_bad cI cB cZ a_this a_all a_kept a_isKept a_refused a_hand a_outs a_order0 a_bestOrder a_tells a_bytes a_anew a_values refused above below_ bytesLong tokenAt tokenLong token value)) (w1 := (wd_X9_bad cI cB cZ a_this a_all a_kept a_isKept a_refused a_hand a_outs a_order0 a_bestOrder a_tells a_bytes a_anew a_values q1.2 above below_ bytesLong tokenAt tokenLong token value)) (ws' := (wd_X9_wet cI cB cZ a_this a_all a_kept a_isKept a_refused a_hand a_outs a_order0 a_bestOrder a_tells a_bytes a_anew a_values all q1.2 above below_ bytesLong tokenAt tokenLong token value)) hx hb hml hown hts hK hA hl hS (c_X9_bad l D cI cB cZ a_this a_all a_kept a_isKept a_refused a_hand a_outs a_order0 a_bestOrder a_tells a_bytes a_anew a_values refused above below_ bytesLong tokenAt tokenLong token value (-2 : Int32) _ _ hq1) (cwV 1 hts gX9_wet_X9_bad rfl rfl rfl (by decide +kernel) ⟨Nat.le_of_ble_eq_true rfl, Nat.le_of_ble_eq_true rfl⟩) 0 rfl rfl [0, 2] rfl rfl rfl [.inr 0, .inl 1, .inr 1] rfl rfl rfl rfl (Nat.le_of_ble_eq_true rfl) dX9_wet_22 (fun H locs hS => ?_)
  obtain rfl := Option.some.inj h
  exact hend _ _ _ _ dX9_wet_25 hS
def f_X9_wet   (all : (Nat → Int32)) (refused : (Nat → Int32)) (p1 : Int32) (p2 : Int32) : Option (Int32 × (Nat → Int32) × (Nat → Int32)) := ((f_X9_in (Int32.toInt64 p1) (0 : Int64) (5 : Int64)).bind fun q2 => (if q2 = 0 then f_X9_wet_b19   all refused else ((f_X9_isWet p2).bind fun q4 => (if q4 = 0 then f_X9_wet_b19   all refused else (if ¬ (((25 : Int32) + p1) < 0 ∨ 250 ≤ (Int32.toNatClampNeg ((25 : Int32) + p1))) then (if ¬ (((25 : Int32) + p1) < 0 ∨ 250 ≤ (Int32.toNatClampNeg ((25 : Int32) + p1))) then some ((all (Int32.toNatClampNeg ((25 : Int32) + p1))), (upd (upd all (Int32.toNatClampNeg ((25 : Int32) + p1)) p2) (Int32.toNatClampNeg (4 : Int32)) (0 : Int32)), refused) else none) else none)))))
set_option maxHeartbeats 4000000 in
set_option maxRecDepth 100000 in
theorem c_X9_wet (l : Launch) (D : va_G) (cI cB cZ : ClassId) (a_this : Nat) (a_all : Nat) (a_kept : Nat) (a_isKept : Nat) (a_refused : Nat) (a_hand : Nat) (a_outs : Nat) (a_order0 : Nat) (a_bestOrder : Nat) (a_tells : Nat) (a_bytes : Nat) (a_anew : Nat) (a_values : Nat) (all : (Nat → Int32)) (refused : (Nat → Int32)) (above : Int64) (below_ : Int64) (bytesLong : Int32) (tokenAt : Int32) (tokenLong : Int32) (token : Int32) (value : Int32) (p1 : Int32) (p2 : Int32) (rv : Int32 × (Nat → Int32) × (Nat → Int32)) (sz : Nat) (hf : f_X9_wet all refused p1 p2 = some rv) : Met l yX9_wet wsX9_wet rm_X9_wet (sPc D vwCl (s_tys cI cB cZ) [.ref a_this, .int p1, .int p2] (wd_X9_wet cI cB cZ a_this a_all a_kept a_isKept a_refused a_hand a_outs a_order0 a_bestOrder a_tells a_bytes a_anew a_values all refused above below_ bytesLong tokenAt tokenLong token value) sz) (sQi D vwCl (wd_X9_wet cI cB cZ a_this a_all a_kept a_isKept a_refused a_hand a_outs a_order0 a_bestOrder a_tells a_bytes a_anew a_values all refused above below_ bytesLong tokenAt tokenLong token value) (wd_X9_wet cI cB cZ a_this a_all a_kept a_isKept a_refused a_hand a_outs a_order0 a_bestOrder a_tells a_bytes a_anew a_values rv.2.1 rv.2.2 above below_ bytesLong tokenAt tokenLong token value) sz rv.1) 0 0 (va_A (wd_X9_wet cI cB cZ a_this a_all a_kept a_isKept a_refused a_hand a_outs a_order0 a_bestOrder a_tells a_bytes a_anew a_values all refused above below_ bytesLong tokenAt tokenLong token value) sz) := by
  refine s_enter_n (cc := cX9_wet) (nL := 4) (r := rv.1) (by decide) rfl (Nat.le_of_ble_eq_true rfl) ?_
  intro p e s m args below meth c A Q C0 hend ls hl hS
  have h := hf
  clear hf
  replace hl : lv_has ls 4 [(0, .ref a_this), (1, .int p1), (2, .int p2)] := hl
  unfold f_X9_wet at h
  obtain ⟨hx, hb, hml, hown, hts, hK, hA⟩ := id C0
  have inX9 : ∀ w ∈ u_ws RX9 TX9 19, w ∈ wsX9_wet := inX9_X9_wet
  refine lv_iload_n hx hb dX9_wet_0 rfl (lv_at hl 1 rfl) ?_
  refine lv_i2l (v := (Int32.toInt64 p1)) hx hb dX9_wet_1 rfl ?_
  refine lv_lconst (v := (0 : Int64)) hx hb dX9_wet_2 (by decide) ?_
  refine lv_ldc2 (v := (5 : Int64)) hx hb hown (hts (.constantLong RX9 63 (5)) (List.mem_of_getElem? (i := 1) rfl)) dX9_wet_3 ?_
  obtain ⟨q2, hq2, h⟩ := s_bind h
  refine u_calliS (r := q2) (As := [.long (Int32.toInt64 p1), .long (0 : Int64), .long (5 : Int64)]) (rest := []) (wc := ([] : va_W)) hx hb hml hown hts hK hA hl hS (c_X9_in l D cI cB cZ (Int32.toInt64 p1) (0 : Int64) (5 : Int64) _ _ hq2) (va_cwS 3 hts gX9_wet_X9_in rfl rfl rfl (by decide +kernel) ⟨Nat.le_of_ble_eq_true rfl, Nat.le_of_ble_eq_true rfl⟩) [] rfl rfl rfl rfl (Nat.le_of_ble_eq_true rfl) dX9_wet_6 (fun H locs hS => ?_)
  refine lv_if_eq (tgt := 19) hx hb dX9_wet_9 (by decide) (fun c3 => ?_) (fun c3 => ?_)
  · replace h := s_yes c3 h
    exact w_X9_wet_b19 C0 hend  all refused _ _ _ h hS (lv_sub hl [0] rfl)
  replace h := s_no c3 h
  refine lv_iload_n hx hb dX9_wet_12 rfl (lv_at hl 2 rfl) ?_
  obtain ⟨q4, hq4, h⟩ := s_bind h
  refine u_calliS (r := q4) (As := [.int p2]) (rest := []) (wc := ([] : va_W)) hx hb hml hown hts hK hA hl hS (c_X9_isWet l D cI cB cZ p2 _ _ hq4) (va_cwS 1 hts gX9_wet_X9_isWet rfl rfl rfl (by decide +kernel) ⟨Nat.le_of_ble_eq_true rfl, Nat.le_of_ble_eq_true rfl⟩) [] rfl rfl rfl rfl (Nat.le_of_ble_eq_true rfl) dX9_wet_13 (fun H locs hS => ?_)
  refine lv_if_ne (tgt := 26) hx hb dX9_wet_16 (by decide) (fun c5 => ?_) (fun c5 => ?_)
  · replace h := s_no c5 h
    refine lv_aload_n hx hb dX9_wet_26 rfl (lv_at hl 0 rfl) ?_
    refine s_get (C := RX9) (T := TX9) (N := 19) hx hb hts inX9 hown hK hS 0 rfl rfl 0 (by decide) (hts (.fieldLink RX9 7 "InnTurnedModel" "all" "[I") (List.mem_of_getElem? (i := 2) rfl)) rfl rfl dX9_wet_27 ?_
    refine lv_bipush (v := (25 : Int32)) hx hb dX9_wet_30 (by decide) ?_
    refine lv_iload_n hx hb dX9_wet_32 rfl (lv_at hl 1 rfl) ?_
    refine lv_iadd hx hb dX9_wet_33 ?_
    obtain ⟨g6, h⟩ := s_guard h
    refine s_iald hx hb hK hS 1 rfl rfl g6 dX9_wet_34 ?_
    refine lv_istore_n (lv' := [(3, .int (all (Int32.toNatClampNeg ((25 : Int32) + p1)))), (0, .ref a_this), (1, .int p1), (2, .int p2)]) hx hb dX9_wet_35 rfl hl (by decide) rfl (fun ls hl => ?_)
    refine lv_aload_n hx hb dX9_wet_36 rfl (lv_at hl 1 rfl) ?_
    refine s_get (C := RX9) (T := TX9) (N := 19) hx hb hts inX9 hown hK hS 0 rfl rfl 0 (by decide) (hts (.fieldLink RX9 7 "InnTurnedModel" "all" "[I") (List.mem_of_getElem? (i := 2) rfl)) rfl rfl dX9_wet_37 ?_
    refine lv_bipush (v := (25 : Int32)) hx hb dX9_wet_40 (by decide) ?_
    refine lv_iload_n hx hb dX9_wet_42 rfl (lv_at hl 2 rfl) ?_
    refine lv_iadd hx hb dX9_wet_43 ?_
    refine lv_iload_n hx hb dX9_wet_44 rfl (lv_at hl 3 rfl) ?_
    obtain ⟨g7, h⟩ := s_guard h
    refine s_iast (ws' := (wd_X9_wet cI cB cZ a_this a_all a_kept a_isKept a_refused a_hand a_outs a_order0 a_bestOrder a_tells a_bytes a_anew a_values (upd all (Int32.toNatClampNeg ((25 : Int32) + p1)) p2) refused above below_ bytesLong tokenAt tokenLong token value)) hx hb hK hS 1 rfl rfl g7 rfl dX9_wet_45 (fun H locs hS => ?_)
    refine lv_aload_n hx hb dX9_wet_46 rfl (lv_at hl 1 rfl) ?_
    refine s_get (C := RX9) (T := TX9) (N := 19) hx hb hts inX9 hown hK hS 0 rfl rfl 0 (by decide) (hts (.fieldLink RX9 7 "InnTurnedModel" "all" "[I") (List.mem_of_getElem? (i := 2) rfl)) rfl rfl dX9_wet_47 ?_
    refine lv_iconst (v := (4 : Int32)) hx hb dX9_wet_50 (by decide) ?_
    refine lv_iconst (v := (0 : Int32)) hx hb dX9_wet_51 (by decide) ?_
    refine s_iast (ws' := (wd_X9_wet cI cB cZ a_this a_all a_kept a_isKept a_refused a_hand a_outs a_order0 a_bestOrder a_tells a_bytes a_anew a_values (upd (upd all (Int32.toNatClampNeg ((25 : Int32) + p1)) p2) (Int32.toNatClampNeg (4 : Int32)) (0 : Int32)) refused above below_ bytesLong tokenAt tokenLong token value)) hx hb hK hS 1 rfl rfl (by decide) rfl dX9_wet_52 (fun H locs hS => ?_)
    refine lv_iload_n hx hb dX9_wet_53 rfl (lv_at hl 0 rfl) ?_
    obtain rfl := Option.some.inj h
    exact hend _ _ _ _ dX9_wet_54 hS
  replace h := s_yes c5 h
  exact w_X9_wet_b19 C0 hend  all refused _ _ _ h hS (lv_sub hl [0] rfl)

-- InnTurnedModel.layOne([III)V
def wd_X9_layOne (cI cB cZ : ClassId) (a_p1 : Nat) (n_p1 : Nat) (p1 : (Nat → Int32)) : va_W := [(a_p1, .inl (cI, n_p1, .inl p1))]
abbrev rm_X9_layOne : Room := { frames := 0, cells := 0, slots := 0, locals := 0 }
def f_X9_layOne (n_p1 : Nat)  (p1 : (Nat → Int32)) (p2 : Int32) (p3 : Int32) : Option ((Nat → Int32)) := (if ¬ ((0 : Int32) < 0 ∨ n_p1 ≤ (Int32.toNatClampNeg (0 : Int32))) then (if ¬ (((31 : Int32) + (p1 (Int32.toNatClampNeg (0 : Int32)))) < 0 ∨ n_p1 ≤ (Int32.toNatClampNeg ((31 : Int32) + (p1 (Int32.toNatClampNeg (0 : Int32)))))) then (if ¬ (((5 : Int32) + (p1 (Int32.toNatClampNeg (0 : Int32)))) < 0 ∨ n_p1 ≤ (Int32.toNatClampNeg ((5 : Int32) + (p1 (Int32.toNatClampNeg (0 : Int32)))))) then (if ¬ (((12 : Int32) + (p1 (Int32.toNatClampNeg (0 : Int32)))) < 0 ∨ n_p1 ≤ (Int32.toNatClampNeg ((12 : Int32) + (p1 (Int32.toNatClampNeg (0 : Int32)))))) then (if ¬ ((0 : Int32) < 0 ∨ n_p1 ≤ (Int32.toNatClampNeg (0 : Int32))) then (if ¬ ((0 : Int32) < 0 ∨ n_p1 ≤ (Int32.toNatClampNeg (0 : Int32))) then some ((upd (upd (upd (upd p1 (Int32.toNatClampNeg ((31 : Int32) + (p1 (Int32.toNatClampNeg (0 : Int32))))) p2) (Int32.toNatClampNeg ((5 : Int32) + (p1 (Int32.toNatClampNeg (0 : Int32))))) p3) (Int32.toNatClampNeg ((12 : Int32) + (p1 (Int32.toNatClampNeg (0 : Int32))))) (0 : Int32)) (Int32.toNatClampNeg (0 : Int32)) (((upd (upd (upd p1 (Int32.toNatClampNeg ((31 : Int32) + (p1 (Int32.toNatClampNeg (0 : Int32))))) p2) (Int32.toNatClampNeg ((5 : Int32) + (p1 (Int32.toNatClampNeg (0 : Int32))))) p3) (Int32.toNatClampNeg ((12 : Int32) + (p1 (Int32.toNatClampNeg (0 : Int32))))) (0 : Int32)) (Int32.toNatClampNeg (0 : Int32))) + (1 : Int32)))) else none) else none) else none) else none) else none) else none)
set_option maxHeartbeats 4000000 in
set_option maxRecDepth 100000 in
theorem c_X9_layOne (l : Launch) (D : va_G) (cI cB cZ : ClassId) (a_p1 : Nat) (n_p1 : Nat) (p1 : (Nat → Int32)) (p2 : Int32) (p3 : Int32) (rv : (Nat → Int32)) (sz : Nat) (hf : f_X9_layOne n_p1 p1 p2 p3 = some rv) : Met l yX9_layOne wsX9_layOne rm_X9_layOne (sPc D vwCl (s_tys cI cB cZ) [.ref a_p1, .int p2, .int p3] (wd_X9_layOne cI cB cZ a_p1 n_p1 p1) sz) (sQv D vwCl (wd_X9_layOne cI cB cZ a_p1 n_p1 p1) (wd_X9_layOne cI cB cZ a_p1 n_p1 rv) sz) 0 0 (va_A (wd_X9_layOne cI cB cZ a_p1 n_p1 p1) sz) := by
  refine s_enter_v (cc := cX9_layOne) (nL := 4) (by decide) rfl (Nat.le_of_ble_eq_true rfl) ?_
  intro p e s m args below meth c A Q C0 hend ls hl hS
  have h := hf
  clear hf
  replace hl : lv_has ls 4 [(0, .ref a_p1), (1, .int p2), (2, .int p3)] := hl
  unfold f_X9_layOne at h
  obtain ⟨hx, hb, hml, hown, hts, hK, hA⟩ := id C0
  refine lv_aload_n hx hb dX9_layOne_0 rfl (lv_at hl 0 rfl) ?_
  refine lv_iconst (v := (0 : Int32)) hx hb dX9_layOne_1 (by decide) ?_
  obtain ⟨g1, h⟩ := s_guard h
  refine s_iald hx hb hK hS 0 rfl rfl g1 dX9_layOne_2 ?_
  refine lv_istore_n (lv' := [(3, .int (p1 (Int32.toNatClampNeg (0 : Int32)))), (0, .ref a_p1), (1, .int p2), (2, .int p3)]) hx hb dX9_layOne_3 rfl hl (by decide) rfl (fun ls hl => ?_)
  refine lv_aload_n hx hb dX9_layOne_4 rfl (lv_at hl 1 rfl) ?_
  refine lv_bipush (v := (31 : Int32)) hx hb dX9_layOne_5 (by decide) ?_
  refine lv_iload_n hx hb dX9_layOne_7 rfl (lv_at hl 0 rfl) ?_
  refine lv_iadd hx hb dX9_layOne_8 ?_
  refine lv_iload_n hx hb dX9_layOne_9 rfl (lv_at hl 2 rfl) ?_
  obtain ⟨g2, h⟩ := s_guard h
  refine s_iast (ws' := (wd_X9_layOne cI cB cZ a_p1 n_p1 (upd p1 (Int32.toNatClampNeg ((31 : Int32) + (p1 (Int32.toNatClampNeg (0 : Int32))))) p2))) hx hb hK hS 0 rfl rfl g2 rfl dX9_layOne_10 (fun H locs hS => ?_)
  refine lv_aload_n hx hb dX9_layOne_11 rfl (lv_at hl 1 rfl) ?_
  refine lv_iconst (v := (5 : Int32)) hx hb dX9_layOne_12 (by decide) ?_
  refine lv_iload_n hx hb dX9_layOne_13 rfl (lv_at hl 0 rfl) ?_
  refine lv_iadd hx hb dX9_layOne_14 ?_
  refine lv_iload_n hx hb dX9_layOne_15 rfl (lv_at hl 3 rfl) ?_
  obtain ⟨g3, h⟩ := s_guard h
  refine s_iast (ws' := (wd_X9_layOne cI cB cZ a_p1 n_p1 (upd (upd p1 (Int32.toNatClampNeg ((31 : Int32) + (p1 (Int32.toNatClampNeg (0 : Int32))))) p2) (Int32.toNatClampNeg ((5 : Int32) + (p1 (Int32.toNatClampNeg (0 : Int32))))) p3))) hx hb hK hS 0 rfl rfl g3 rfl dX9_layOne_16 (fun H locs hS => ?_)
  refine lv_aload_n hx hb dX9_layOne_17 rfl (lv_at hl 1 rfl) ?_
  refine lv_bipush (v := (12 : Int32)) hx hb dX9_layOne_18 (by decide) ?_
  refine lv_iload_n hx hb dX9_layOne_20 rfl (lv_at hl 0 rfl) ?_
  refine lv_iadd hx hb dX9_layOne_21 ?_
  refine lv_iconst (v := (0 : Int32)) hx hb dX9_layOne_22 (by decide) ?_
  obtain ⟨g4, h⟩ := s_guard h
  refine s_iast (ws' := (wd_X9_layOne cI cB cZ a_p1 n_p1 (upd (upd (upd p1 (Int32.toNatClampNeg ((31 : Int32) + (p1 (Int32.toNatClampNeg (0 : Int32))))) p2) (Int32.toNatClampNeg ((5 : Int32) + (p1 (Int32.toNatClampNeg (0 : Int32))))) p3) (Int32.toNatClampNeg ((12 : Int32) + (p1 (Int32.toNatClampNeg (0 : Int32))))) (0 : Int32)))) hx hb hK hS 0 rfl rfl g4 rfl dX9_layOne_23 (fun H locs hS => ?_)
  refine lv_aload_n hx hb dX9_layOne_24 rfl (lv_at hl 1 rfl) ?_
  refine lv_iconst (v := (0 : Int32)) hx hb dX9_layOne_25 (by decide) ?_
  refine lv_dup2_11 hx hb dX9_layOne_26 rfl rfl ?_
  obtain ⟨g5, h⟩ := s_guard h
  refine s_iald hx hb hK hS 0 rfl rfl g5 dX9_layOne_27 ?_
  refine lv_iconst (v := (1 : Int32)) hx hb dX9_layOne_28 (by decide) ?_
  refine lv_iadd hx hb dX9_layOne_29 ?_
  obtain ⟨g6, h⟩ := s_guard h
  refine s_iast (ws' := (wd_X9_layOne cI cB cZ a_p1 n_p1 (upd (upd (upd (upd p1 (Int32.toNatClampNeg ((31 : Int32) + (p1 (Int32.toNatClampNeg (0 : Int32))))) p2) (Int32.toNatClampNeg ((5 : Int32) + (p1 (Int32.toNatClampNeg (0 : Int32))))) p3) (Int32.toNatClampNeg ((12 : Int32) + (p1 (Int32.toNatClampNeg (0 : Int32))))) (0 : Int32)) (Int32.toNatClampNeg (0 : Int32)) (((upd (upd (upd p1 (Int32.toNatClampNeg ((31 : Int32) + (p1 (Int32.toNatClampNeg (0 : Int32))))) p2) (Int32.toNatClampNeg ((5 : Int32) + (p1 (Int32.toNatClampNeg (0 : Int32))))) p3) (Int32.toNatClampNeg ((12 : Int32) + (p1 (Int32.toNatClampNeg (0 : Int32))))) (0 : Int32)) (Int32.toNatClampNeg (0 : Int32))) + (1 : Int32))))) hx hb hK hS 0 rfl rfl g6 rfl dX9_layOne_30 (fun H locs hS => ?_)
  obtain rfl := Option.some.inj h
  exact hend _ _ _ _ dX9_layOne_31 hS

-- InnTurnedModel.one(II)I
def wd_X9_one (cI cB cZ : ClassId) (a_this : Nat) (a_all : Nat) (a_kept : Nat) (a_isKept : Nat) (a_refused : Nat) (a_hand : Nat) (a_outs : Nat) (a_order0 : Nat) (a_bestOrder : Nat) (a_tells : Nat) (a_bytes : Nat) (a_anew : Nat) (a_values : Nat)  (all : (Nat → Int32)) (refused : (Nat → Int32)) (above : Int64) (below_ : Int64) (bytesLong : Int32) (tokenAt : Int32) (tokenLong : Int32) (token : Int32) (value : Int32) : va_W := [(a_this, .inr (6, [.ref a_all, .ref a_kept, .ref a_isKept, .ref a_refused, .long above, .long below_, .ref a_hand, .ref a_outs, .ref a_order0, .ref a_bestOrder, .ref a_tells, .ref a_bytes, .int bytesLong, .int tokenAt, .int tokenLong, .int token, .int value, .ref a_anew, .ref a_values])), (a_all, .inl (cI, 250, .inl all)), (a_refused, .inl (cI, 3, .inl refused))]
abbrev rm_X9_one : Room := { frames := 2, cells := 0, slots := 0, locals := 45 }
set_option maxRecDepth 20000 in
theorem inX9_X9_one : ∀ w ∈ u_ws RX9 TX9 19, w ∈ wsX9_one := by decide +kernel
def f_X9_one_b14   (all : (Nat → Int32)) (refused : (Nat → Int32)) : Option (Int32 × (Nat → Int32) × (Nat → Int32)) := ((f_X9_bad refused (-2 : Int32)).bind fun q1 => some (q1.1, all, q1.2))
set_option maxHeartbeats 4000000 in
set_option maxRecDepth 100000 in
theorem w_X9_one_b14 {p : Program} {l : Launch} {e : Env} {s : State} {m : MethodId} {args : Array Value} {below : List Frame} {meth : Method} {c : Code} {A : Nat → Prop} {Q : State → Prop} {D : va_G} {cI cB cZ : ClassId} {a_this a_all a_kept a_isKept a_refused a_hand a_outs a_order0 a_bestOrder a_tells a_bytes a_anew a_values : Nat} {above : Int64} {below_ : Int64} {bytesLong : Int32} {tokenAt : Int32} {tokenLong : Int32} {token : Int32} {value : Int32} (C0 : Cx p s m args c cX9_one 3 RX9 wsX9_one D (s_tys cI cB cZ) A) {rv : Int32 × (Nat → Int32) × (Nat → Int32)} (hend : ∀ (pc : Nat) (H : Heap) (locs : List Loc) (ls : Array Slot), decode cX9_one pc = .ok (.ireturn, 1) → sS D vwCl A s.heap (wd_X9_one cI cB cZ a_this a_all a_kept a_isKept a_refused a_hand a_outs a_order0 a_bestOrder a_tells a_bytes a_anew a_values rv.2.1 rv.2.2 above below_ bytesLong tokenAt tokenLong token value) H locs → W p l e rm_X9_one s m args below meth c H locs 0 0 Q (F0 m pc ls [.int rv.1])) : ∀ (all : (Nat → Int32)) (refused : (Nat → Int32)) (H : Heap) (locs : List Loc) (ls : Array Slot), f_X9_one_b14  all refused = some rv → sS D vwCl A s.heap (wd_X9_one cI cB cZ a_this a_all a_kept a_isKept a_refused a_hand a_outs a_order0 a_bestOrder a_tells a_bytes a_anew a_values all refused above below_ bytesLong tokenAt tokenLong token value) H locs → lv_has ls 3 [(0, .ref a_this)] → W p l e rm_X9_one s m args below meth c H locs 0 0 Q (F0 m 14 ls []) := by
  obtain ⟨hx, hb, hml, hown, hts, hK, hA⟩ := id C0
  have inX9 : ∀ w ∈ u_ws RX9 TX9 19, w ∈ wsX9_one := inX9_X9_one
  intro all refused H locs ls h hS hl
  unfold f_X9_one_b14 at h
  refine lv_aload_n hx hb dX9_one_14 rfl (lv_at hl 0 rfl) ?_
  refine lv_bipush (v := (-2 : Int32)) hx hb dX9_one_15 (by decide) ?_
  obtain ⟨q1, hq1, h⟩ := s_bind h
  refine r_calliV (r := q1.1) (As := [.int (-2 : Int32)]) (rest := []) (wc := (wd_X9_bad cI cB cZ a_this a_all a_kept a_isKept a_refused a_hand a_outs a_order0 a_bestOrder a_tells a_bytes a_anew a_values refused above below_ bytesLong tokenAt tokenLong token value)) (w1 := (wd_X9_bad cI cB cZ a_this a_all a_kept a_isKept a_refused a_hand a_outs a_order0 a_bestOrder a_tells a_bytes a_anew a_values q1.2 above below_ bytesLong tokenAt tokenLong token value)) (ws' := (wd_X9_one cI cB cZ a_this a_all a_kept a_isKept a_refused a_hand a_outs a_order0 a_bestOrder a_tells a_bytes a_anew a_values all q1.2 above below_ bytesLong tokenAt tokenLong token value)) hx hb hml hown hts hK hA hl hS (c_X9_bad l D cI cB cZ a_this a_all a_kept a_isKept a_refused a_hand a_outs a_order0 a_bestOrder a_tells a_bytes a_anew a_values refused above below_ bytesLong tokenAt tokenLong token value (-2 : Int32) _ _ hq1) (cwV 1 hts gX9_one_X9_bad rfl rfl rfl (by decide +kernel) ⟨Nat.le_of_ble_eq_true rfl, Nat.le_of_ble_eq_true rfl⟩) 0 rfl rfl [0, 2] rfl rfl rfl [.inr 0, .inl 1, .inr 1] rfl rfl rfl rfl (Nat.le_of_ble_eq_true rfl) dX9_one_17 (fun H locs hS => ?_)
  obtain rfl := Option.some.inj h
  exact hend _ _ _ _ dX9_one_20 hS
def f_X9_one   (all : (Nat → Int32)) (refused : (Nat → Int32)) (p1 : Int32) (p2 : Int32) : Option (Int32 × (Nat → Int32) × (Nat → Int32)) := ((f_X9_isKind p1).bind fun q2 => (if q2 = 0 then f_X9_one_b14   all refused else ((f_X9_isWord p2).bind fun q4 => (if q4 = 0 then f_X9_one_b14   all refused else ((f_X9_many all).bind fun q6 => (if q6 = (7 : Int32) then ((f_X9_full refused).bind fun q10 => some (q10.1, all, q10.2)) else ((f_X9_layOne 250 all p1 p2).bind fun q8 => ((f_X9_many (upd q8 (Int32.toNatClampNeg (4 : Int32)) (0 : Int32))).bind fun q9 => some ((q9 - (1 : Int32)), (upd q8 (Int32.toNatClampNeg (4 : Int32)) (0 : Int32)), refused)))))))))
set_option maxHeartbeats 4000000 in
set_option maxRecDepth 100000 in
theorem c_X9_one (l : Launch) (D : va_G) (cI cB cZ : ClassId) (a_this : Nat) (a_all : Nat) (a_kept : Nat) (a_isKept : Nat) (a_refused : Nat) (a_hand : Nat) (a_outs : Nat) (a_order0 : Nat) (a_bestOrder : Nat) (a_tells : Nat) (a_bytes : Nat) (a_anew : Nat) (a_values : Nat) (all : (Nat → Int32)) (refused : (Nat → Int32)) (above : Int64) (below_ : Int64) (bytesLong : Int32) (tokenAt : Int32) (tokenLong : Int32) (token : Int32) (value : Int32) (p1 : Int32) (p2 : Int32) (rv : Int32 × (Nat → Int32) × (Nat → Int32)) (sz : Nat) (hf : f_X9_one all refused p1 p2 = some rv) : Met l yX9_one wsX9_one rm_X9_one (sPc D vwCl (s_tys cI cB cZ) [.ref a_this, .int p1, .int p2] (wd_X9_one cI cB cZ a_this a_all a_kept a_isKept a_refused a_hand a_outs a_order0 a_bestOrder a_tells a_bytes a_anew a_values all refused above below_ bytesLong tokenAt tokenLong token value) sz) (sQi D vwCl (wd_X9_one cI cB cZ a_this a_all a_kept a_isKept a_refused a_hand a_outs a_order0 a_bestOrder a_tells a_bytes a_anew a_values all refused above below_ bytesLong tokenAt tokenLong token value) (wd_X9_one cI cB cZ a_this a_all a_kept a_isKept a_refused a_hand a_outs a_order0 a_bestOrder a_tells a_bytes a_anew a_values rv.2.1 rv.2.2 above below_ bytesLong tokenAt tokenLong token value) sz rv.1) 0 0 (va_A (wd_X9_one cI cB cZ a_this a_all a_kept a_isKept a_refused a_hand a_outs a_order0 a_bestOrder a_tells a_bytes a_anew a_values all refused above below_ bytesLong tokenAt tokenLong token value) sz) := by
  refine s_enter_n (cc := cX9_one) (nL := 3) (r := rv.1) (by decide) rfl (Nat.le_of_ble_eq_true rfl) ?_
  intro p e s m args below meth c A Q C0 hend ls hl hS
  have h := hf
  clear hf
  replace hl : lv_has ls 3 [(0, .ref a_this), (1, .int p1), (2, .int p2)] := hl
  unfold f_X9_one at h
  obtain ⟨hx, hb, hml, hown, hts, hK, hA⟩ := id C0
  have inX9 : ∀ w ∈ u_ws RX9 TX9 19, w ∈ wsX9_one := inX9_X9_one
  refine lv_iload_n hx hb dX9_one_0 rfl (lv_at hl 1 rfl) ?_
  obtain ⟨q2, hq2, h⟩ := s_bind h
  refine u_calliS (r := q2) (As := [.int p1]) (rest := []) (wc := ([] : va_W)) hx hb hml hown hts hK hA hl hS (c_X9_isKind l D cI cB cZ p1 _ _ hq2) (va_cwS 1 hts gX9_one_X9_isKind rfl rfl rfl (by decide +kernel) ⟨Nat.le_of_ble_eq_true rfl, Nat.le_of_ble_eq_true rfl⟩) [] rfl rfl rfl rfl (Nat.le_of_ble_eq_true rfl) dX9_one_1 (fun H locs hS => ?_)
  refine lv_if_eq (tgt := 14) hx hb dX9_one_4 (by decide) (fun c3 => ?_) (fun c3 => ?_)
  · replace h := s_yes c3 h
    exact w_X9_one_b14 C0 hend  all refused _ _ _ h hS (lv_sub hl [0] rfl)
  replace h := s_no c3 h
  refine lv_iload_n hx hb dX9_one_7 rfl (lv_at hl 2 rfl) ?_
  obtain ⟨q4, hq4, h⟩ := s_bind h
  refine u_calliS (r := q4) (As := [.int p2]) (rest := []) (wc := ([] : va_W)) hx hb hml hown hts hK hA hl hS (c_X9_isWord l D cI cB cZ p2 _ _ hq4) (va_cwS 1 hts gX9_one_X9_isWord rfl rfl rfl (by decide +kernel) ⟨Nat.le_of_ble_eq_true rfl, Nat.le_of_ble_eq_true rfl⟩) [] rfl rfl rfl rfl (Nat.le_of_ble_eq_true rfl) dX9_one_8 (fun H locs hS => ?_)
  refine lv_if_ne (tgt := 21) hx hb dX9_one_11 (by decide) (fun c5 => ?_) (fun c5 => ?_)
  · replace h := s_no c5 h
    refine lv_aload_n hx hb dX9_one_21 rfl (lv_at hl 0 rfl) ?_
    obtain ⟨q6, hq6, h⟩ := s_bind h
    refine u_calliV (r := q6) (As := []) (rest := []) (wc := (wd_X9_many cI cB cZ a_this a_all a_kept a_isKept a_refused a_hand a_outs a_order0 a_bestOrder a_tells a_bytes a_anew a_values all above below_ bytesLong tokenAt tokenLong token value)) hx hb hml hown hts hK hA hl hS (c_X9_many l D cI cB cZ a_this a_all a_kept a_isKept a_refused a_hand a_outs a_order0 a_bestOrder a_tells a_bytes a_anew a_values all above below_ bytesLong tokenAt tokenLong token value _ _ hq6) (cwV 0 hts gX9_one_X9_many rfl rfl rfl (by decide +kernel) ⟨Nat.le_of_ble_eq_true rfl, Nat.le_of_ble_eq_true rfl⟩) 0 rfl rfl [0, 1] rfl rfl rfl rfl (Nat.le_of_ble_eq_true rfl) dX9_one_22 (fun H locs hS => ?_)
    refine lv_bipush (v := (7 : Int32)) hx hb dX9_one_25 (by decide) ?_
    refine lv_icmp_ne (tgt := 35) hx hb dX9_one_27 (by decide) (fun c7 => ?_) (fun c7 => ?_)
    · replace h := s_no c7 h
      refine lv_aload_n hx hb dX9_one_35 rfl (lv_at hl 0 rfl) ?_
      refine s_get (C := RX9) (T := TX9) (N := 19) hx hb hts inX9 hown hK hS 0 rfl rfl 0 (by decide) (hts (.fieldLink RX9 7 "InnTurnedModel" "all" "[I") (List.mem_of_getElem? (i := 1) rfl)) rfl rfl dX9_one_36 ?_
      refine lv_iload_n hx hb dX9_one_39 rfl (lv_at hl 1 rfl) ?_
      refine lv_iload_n hx hb dX9_one_40 rfl (lv_at hl 2 rfl) ?_
      obtain ⟨q8, hq8, h⟩ := s_bind h
      refine r_callvS (As := [.ref a_all, .int p1, .int p2]) (rest := []) (wc := (wd_X9_layOne cI cB cZ a_all 250 all)) (w1 := (wd_X9_layOne cI cB cZ a_all 250 q8)) (ws' := (wd_X9_one cI cB cZ a_this a_all a_kept a_isKept a_refused a_hand a_outs a_order0 a_bestOrder a_tells a_bytes a_anew a_values q8 refused above below_ bytesLong tokenAt tokenLong token value)) hx hb hml hown hts hK hA hl hS (c_X9_layOne l D cI cB cZ a_all 250 all p1 p2 _ _ hq8) (va_cwS 3 hts gX9_one_X9_layOne rfl rfl rfl (by decide +kernel) ⟨Nat.le_of_ble_eq_true rfl, Nat.le_of_ble_eq_true rfl⟩) [1] rfl rfl rfl [.inl 0, .inr 0, .inl 2] rfl rfl rfl rfl (Nat.le_of_ble_eq_true rfl) dX9_one_41 (fun H locs hS => ?_)
      refine lv_aload_n hx hb dX9_one_44 rfl (lv_at hl 0 rfl) ?_
      refine s_get (C := RX9) (T := TX9) (N := 19) hx hb hts inX9 hown hK hS 0 rfl rfl 0 (by decide) (hts (.fieldLink RX9 7 "InnTurnedModel" "all" "[I") (List.mem_of_getElem? (i := 1) rfl)) rfl rfl dX9_one_45 ?_
      refine lv_iconst (v := (4 : Int32)) hx hb dX9_one_48 (by decide) ?_
      refine lv_iconst (v := (0 : Int32)) hx hb dX9_one_49 (by decide) ?_
      refine s_iast (ws' := (wd_X9_one cI cB cZ a_this a_all a_kept a_isKept a_refused a_hand a_outs a_order0 a_bestOrder a_tells a_bytes a_anew a_values (upd q8 (Int32.toNatClampNeg (4 : Int32)) (0 : Int32)) refused above below_ bytesLong tokenAt tokenLong token value)) hx hb hK hS 1 rfl rfl (by decide) rfl dX9_one_50 (fun H locs hS => ?_)
      refine lv_aload_n hx hb dX9_one_51 rfl (lv_at hl 0 rfl) ?_
      obtain ⟨q9, hq9, h⟩ := s_bind h
      refine u_calliV (r := q9) (As := []) (rest := []) (wc := (wd_X9_many cI cB cZ a_this a_all a_kept a_isKept a_refused a_hand a_outs a_order0 a_bestOrder a_tells a_bytes a_anew a_values (upd q8 (Int32.toNatClampNeg (4 : Int32)) (0 : Int32)) above below_ bytesLong tokenAt tokenLong token value)) hx hb hml hown hts hK hA hl hS (c_X9_many l D cI cB cZ a_this a_all a_kept a_isKept a_refused a_hand a_outs a_order0 a_bestOrder a_tells a_bytes a_anew a_values (upd q8 (Int32.toNatClampNeg (4 : Int32)) (0 : Int32)) above below_ bytesLong tokenAt tokenLong token value _ _ hq9) (cwV 0 hts gX9_one_X9_many rfl rfl rfl (by decide +kernel) ⟨Nat.le_of_ble_eq_true rfl, Nat.le_of_ble_eq_true rfl⟩) 0 rfl rfl [0, 1] rfl rfl rfl rfl (Nat.le_of_ble_eq_true rfl) dX9_one_52 (fun H locs hS => ?_)
      refine lv_iconst (v := (1 : Int32)) hx hb dX9_one_55 (by decide) ?_
      refine lv_isub hx hb dX9_one_56 ?_
      obtain rfl := Option.some.inj h
      exact hend _ _ _ _ dX9_one_57 hS
    replace h := s_yes c7 h
    refine lv_aload_n hx hb dX9_one_30 rfl (lv_at hl 0 rfl) ?_
    obtain ⟨q10, hq10, h⟩ := s_bind h
    refine r_calliV (r := q10.1) (As := []) (rest := []) (wc := (wd_X9_full cI cB cZ a_this a_all a_kept a_isKept a_refused a_hand a_outs a_order0 a_bestOrder a_tells a_bytes a_anew a_values refused above below_ bytesLong tokenAt tokenLong token value)) (w1 := (wd_X9_full cI cB cZ a_this a_all a_kept a_isKept a_refused a_hand a_outs a_order0 a_bestOrder a_tells a_bytes a_anew a_values q10.2 above below_ bytesLong tokenAt tokenLong token value)) (ws' := (wd_X9_one cI cB cZ a_this a_all a_kept a_isKept a_refused a_hand a_outs a_order0 a_bestOrder a_tells a_bytes a_anew a_values all q10.2 above below_ bytesLong tokenAt tokenLong token value)) hx hb hml hown hts hK hA hl hS (c_X9_full l D cI cB cZ a_this a_all a_kept a_isKept a_refused a_hand a_outs a_order0 a_bestOrder a_tells a_bytes a_anew a_values refused above below_ bytesLong tokenAt tokenLong token value _ _ hq10) (cwV 0 hts gX9_one_X9_full rfl rfl rfl (by decide +kernel) ⟨Nat.le_of_ble_eq_true rfl, Nat.le_of_ble_eq_true rfl⟩) 0 rfl rfl [0, 2] rfl rfl rfl [.inr 0, .inl 1, .inr 1] rfl rfl rfl rfl (Nat.le_of_ble_eq_true rfl) dX9_one_31 (fun H locs hS => ?_)
    obtain rfl := Option.some.inj h
    exact hend _ _ _ _ dX9_one_34 hS
  replace h := s_yes c5 h
  exact w_X9_one_b14 C0 hend  all refused _ _ _ h hS (lv_sub hl [0] rfl)

-- InnTurnedModel.likelyAs(IIII)I
abbrev rm_X9_likelyAs : Room := { frames := 0, cells := 0, slots := 0, locals := 0 }
def f_X9_likelyAs    (p1 : Int32) (p2 : Int32) (p3 : Int32) (p4 : Int32) : Option (Int32) := (if p1 = (1 : Int32) then some (((((2 : Int32) * p2) + p3) + (4 : Int32))) else (if p1 = (2 : Int32) then some (((((2 : Int32) * p2) + p3) / (2 : Int32))) else (if p1 = (3 : Int32) then (if (p4 - p4 / (7 : Int32) * (7 : Int32)) = (4 : Int32) then some (((((2 : Int32) * p2) + p3) + (10 : Int32))) else some (((((2 : Int32) * p2) + p3) + (4 : Int32)))) else (if p1 = (4 : Int32) then (if p2 = 0 then (if (((2 : Int32) * p2) + p3) ≤ (3 : Int32) then some ((((2 : Int32) * p2) + p3)) else some ((3 : Int32))) else some ((((2 : Int32) * p2) + p3))) else (if p1 = (5 : Int32) then (if p3 < (2 : Int32) then some (((((2 : Int32) * p2) + p3) / (2 : Int32))) else some ((((((2 : Int32) * p2) + p3) / (2 : Int32)) + (9 : Int32)))) else some ((((2 : Int32) * p2) + p3)))))))
set_option maxHeartbeats 4000000 in
set_option maxRecDepth 100000 in
theorem c_X9_likelyAs (l : Launch) (D : va_G) (cI cB cZ : ClassId) (p1 : Int32) (p2 : Int32) (p3 : Int32) (p4 : Int32) (rv : Int32) (sz : Nat) (hf : f_X9_likelyAs p1 p2 p3 p4 = some rv) : Met l yX9_likelyAs wsX9_likelyAs rm_X9_likelyAs (sPc D vwCl (s_tys cI cB cZ) [.int p1, .int p2, .int p3, .int p4] ([] : va_W) sz) (sQi D vwCl ([] : va_W) ([] : va_W) sz rv) 0 0 (va_A ([] : va_W) sz) := by
  refine s_enter_n (cc := cX9_likelyAs) (nL := 6) (r := rv) (by decide) rfl (Nat.le_of_ble_eq_true rfl) ?_
  intro p e s m args below meth c A Q C0 hend ls hl hS
  have h := hf
  clear hf
  replace hl : lv_has ls 6 [(0, .int p1), (1, .int p2), (2, .int p3), (3, .int p4)] := hl
  unfold f_X9_likelyAs at h
  obtain ⟨hx, hb, hml, hown, hts, hK, hA⟩ := id C0
  refine lv_iconst (v := (2 : Int32)) hx hb dX9_likelyAs_0 (by decide) ?_
  refine lv_iload_n hx hb dX9_likelyAs_1 rfl (lv_at hl 1 rfl) ?_
  refine lv_imul hx hb dX9_likelyAs_2 ?_
  refine lv_iload_n hx hb dX9_likelyAs_3 rfl (lv_at hl 2 rfl) ?_
  refine lv_iadd hx hb dX9_likelyAs_4 ?_
  refine lv_istore (lv' := [(4, .int (((2 : Int32) * p2) + p3)), (0, .int p1), (1, .int p2), (2, .int p3), (3, .int p4)]) hx hb dX9_likelyAs_5 hl (by decide) rfl (fun ls hl => ?_)
  refine lv_iload hx hb dX9_likelyAs_7 (lv_at hl 0 rfl) ?_
  refine lv_iconst (v := (2 : Int32)) hx hb dX9_likelyAs_9 (by decide) ?_
  refine lv_idiv hx hb dX9_likelyAs_10 (by decide) ?_
  refine lv_istore (lv' := [(5, .int ((((2 : Int32) * p2) + p3) / (2 : Int32))), (4, .int (((2 : Int32) * p2) + p3)), (0, .int p1), (1, .int p2), (2, .int p3), (3, .int p4)]) hx hb dX9_likelyAs_11 hl (by decide) rfl (fun ls hl => ?_)
  refine lv_iload_n hx hb dX9_likelyAs_13 rfl (lv_at hl 2 rfl) ?_
  by_cases e1 : p1 = (1 : Int32)
  · refine s_sw hx hb (1 : Int32) e1 dX9_likelyAs_14 (tgt := 48) (by decide) (by decide) rfl (by decide) ?_
    replace h := s_yes e1 h
    refine lv_iload hx hb dX9_likelyAs_48 (lv_at hl 1 rfl) ?_
    refine lv_iconst (v := (4 : Int32)) hx hb dX9_likelyAs_50 (by decide) ?_
    refine lv_iadd hx hb dX9_likelyAs_51 ?_
    obtain rfl := Option.some.inj h
    exact hend _ _ _ _ dX9_likelyAs_52 hS
  replace h := s_no e1 h
  by_cases e2 : p1 = (2 : Int32)
  · refine s_sw hx hb (2 : Int32) e2 dX9_likelyAs_14 (tgt := 53) (by decide) (by decide) rfl (by decide) ?_
    replace h := s_yes e2 h
    refine lv_iload hx hb dX9_likelyAs_53 (lv_at hl 0 rfl) ?_
    obtain rfl := Option.some.inj h
    exact hend _ _ _ _ dX9_likelyAs_55 hS
  replace h := s_no e2 h
  by_cases e3 : p1 = (3 : Int32)
  · refine s_sw hx hb (3 : Int32) e3 dX9_likelyAs_14 (tgt := 56) (by decide) (by decide) rfl (by decide) ?_
    replace h := s_yes e3 h
    refine lv_iload_n hx hb dX9_likelyAs_56 rfl (lv_at hl 5 rfl) ?_
    refine lv_bipush (v := (7 : Int32)) hx hb dX9_likelyAs_57 (by decide) ?_
    refine lv_irem hx hb dX9_likelyAs_59 (by decide) ?_
    refine lv_iconst (v := (4 : Int32)) hx hb dX9_likelyAs_60 (by decide) ?_
    refine lv_icmp_ne (tgt := 72) hx hb dX9_likelyAs_61 (by decide) (fun c4 => ?_) (fun c4 => ?_)
    · replace h := s_no c4 h
      refine lv_iload hx hb dX9_likelyAs_72 (lv_at hl 1 rfl) ?_
      refine lv_iconst (v := (4 : Int32)) hx hb dX9_likelyAs_74 (by decide) ?_
      refine lv_iadd hx hb dX9_likelyAs_75 ?_
      obtain rfl := Option.some.inj h
      exact hend _ _ _ _ dX9_likelyAs_76 hS
    replace h := s_yes c4 h
    refine lv_iload hx hb dX9_likelyAs_64 (lv_at hl 1 rfl) ?_
    refine lv_bipush (v := (10 : Int32)) hx hb dX9_likelyAs_66 (by decide) ?_
    refine lv_iadd hx hb dX9_likelyAs_68 ?_
    refine lv_goto (tgt := 76) hx hb dX9_likelyAs_69 (by decide) ?_
    obtain rfl := Option.some.inj h
    exact hend _ _ _ _ dX9_likelyAs_76 hS
  replace h := s_no e3 h
  by_cases e5 : p1 = (4 : Int32)
  · refine s_sw hx hb (4 : Int32) e5 dX9_likelyAs_14 (tgt := 77) (by decide) (by decide) rfl (by decide) ?_
    replace h := s_yes e5 h
    refine lv_iload_n hx hb dX9_likelyAs_77 rfl (lv_at hl 3 rfl) ?_
    refine lv_if_ne (tgt := 91) hx hb dX9_likelyAs_78 (by decide) (fun c6 => ?_) (fun c6 => ?_)
    · replace h := s_no c6 h
      refine lv_iload hx hb dX9_likelyAs_91 (lv_at hl 1 rfl) ?_
      obtain rfl := Option.some.inj h
      exact hend _ _ _ _ dX9_likelyAs_93 hS
    replace h := s_yes c6 h
    refine lv_iload hx hb dX9_likelyAs_81 (lv_at hl 1 rfl) ?_
    refine lv_iconst (v := (3 : Int32)) hx hb dX9_likelyAs_83 (by decide) ?_
    refine lv_icmp_le (tgt := 91) hx hb dX9_likelyAs_84 (by decide) (fun c7 => ?_) (fun c7 => ?_)
    · replace h := s_yes c7 h
      refine lv_iload hx hb dX9_likelyAs_91 (lv_at hl 1 rfl) ?_
      obtain rfl := Option.some.inj h
      exact hend _ _ _ _ dX9_likelyAs_93 hS
    replace h := s_no c7 h
    refine lv_iconst (v := (3 : Int32)) hx hb dX9_likelyAs_87 (by decide) ?_
    refine lv_goto (tgt := 93) hx hb dX9_likelyAs_88 (by decide) ?_
    obtain rfl := Option.some.inj h
    exact hend _ _ _ _ dX9_likelyAs_93 hS
  replace h := s_no e5 h
  by_cases e8 : p1 = (5 : Int32)
  · refine s_sw hx hb (5 : Int32) e8 dX9_likelyAs_14 (tgt := 94) (by decide) (by decide) rfl (by decide) ?_
    replace h := s_yes e8 h
    refine lv_iload_n hx hb dX9_likelyAs_94 rfl (lv_at hl 4 rfl) ?_
    refine lv_iconst (v := (2 : Int32)) hx hb dX9_likelyAs_95 (by decide) ?_
    refine lv_icmp_lt (tgt := 107) hx hb dX9_likelyAs_96 (by decide) (fun c9 => ?_) (fun c9 => ?_)
    · replace h := s_yes c9 h
      refine lv_iload hx hb dX9_likelyAs_107 (lv_at hl 0 rfl) ?_
      obtain rfl := Option.some.inj h
      exact hend _ _ _ _ dX9_likelyAs_109 hS
    replace h := s_no c9 h
    refine lv_iload hx hb dX9_likelyAs_99 (lv_at hl 0 rfl) ?_
    refine lv_bipush (v := (9 : Int32)) hx hb dX9_likelyAs_101 (by decide) ?_
    refine lv_iadd hx hb dX9_likelyAs_103 ?_
    refine lv_goto (tgt := 109) hx hb dX9_likelyAs_104 (by decide) ?_
    obtain rfl := Option.some.inj h
    exact hend _ _ _ _ dX9_likelyAs_109 hS
  replace h := s_no e8 h
  refine lv_tableOut (tgt := 110) hx hb dX9_likelyAs_14 (by have ze1 := s_ne 1 (by exact e1) (by decide); have ze2 := s_ne 2 (by exact e2) (by decide); have ze3 := s_ne 3 (by exact e3) (by decide); have ze5 := s_ne 4 (by exact e5) (by decide); have ze8 := s_ne 5 (by exact e8) (by decide); omega) (by decide) ?_
  refine lv_iload hx hb dX9_likelyAs_110 (lv_at hl 1 rfl) ?_
  obtain rfl := Option.some.inj h
  exact hend _ _ _ _ dX9_likelyAs_112 hS

-- InnTurnedModel.passesAs(III)I
abbrev rm_X9_passesAs : Room := { frames := 0, cells := 0, slots := 0, locals := 0 }
def f_X9_passesAs    (p1 : Int32) (p2 : Int32) (p3 : Int32) : Option (Int32) := (if p1 = (1 : Int32) then some ((((8 : Int32) - p3) - (3 : Int32))) else (if p1 = (2 : Int32) then some ((((8 : Int32) - p3) + p2)) else (if p1 = (3 : Int32) then some (((((8 : Int32) - p3) - (3 : Int32)) - p2)) else (if p1 = (4 : Int32) then (if p2 = (4 : Int32) then some ((99 : Int32)) else some ((((8 : Int32) - p3) + p2))) else (if p1 = (5 : Int32) then (if p3 = 0 then some (((2 : Int32) * (((8 : Int32) - p3) - (3 : Int32)))) else some ((((8 : Int32) - p3) - (3 : Int32)))) else some (((8 : Int32) - p3)))))))
set_option maxHeartbeats 4000000 in
set_option maxRecDepth 100000 in
theorem c_X9_passesAs (l : Launch) (D : va_G) (cI cB cZ : ClassId) (p1 : Int32) (p2 : Int32) (p3 : Int32) (rv : Int32) (sz : Nat) (hf : f_X9_passesAs p1 p2 p3 = some rv) : Met l yX9_passesAs wsX9_passesAs rm_X9_passesAs (sPc D vwCl (s_tys cI cB cZ) [.int p1, .int p2, .int p3] ([] : va_W) sz) (sQi D vwCl ([] : va_W) ([] : va_W) sz rv) 0 0 (va_A ([] : va_W) sz) := by
  refine s_enter_n (cc := cX9_passesAs) (nL := 5) (r := rv) (by decide) rfl (Nat.le_of_ble_eq_true rfl) ?_
  intro p e s m args below meth c A Q C0 hend ls hl hS
  have h := hf
  clear hf
  replace hl : lv_has ls 5 [(0, .int p1), (1, .int p2), (2, .int p3)] := hl
  unfold f_X9_passesAs at h
  obtain ⟨hx, hb, hml, hown, hts, hK, hA⟩ := id C0
  refine lv_bipush (v := (8 : Int32)) hx hb dX9_passesAs_0 (by decide) ?_
  refine lv_iload_n hx hb dX9_passesAs_2 rfl (lv_at hl 2 rfl) ?_
  refine lv_isub hx hb dX9_passesAs_3 ?_
  refine lv_istore_n (lv' := [(3, .int ((8 : Int32) - p3)), (0, .int p1), (1, .int p2), (2, .int p3)]) hx hb dX9_passesAs_4 rfl hl (by decide) rfl (fun ls hl => ?_)
  refine lv_iload_n hx hb dX9_passesAs_5 rfl (lv_at hl 0 rfl) ?_
  refine lv_iconst (v := (3 : Int32)) hx hb dX9_passesAs_6 (by decide) ?_
  refine lv_isub hx hb dX9_passesAs_7 ?_
  refine lv_istore (lv' := [(4, .int (((8 : Int32) - p3) - (3 : Int32))), (3, .int ((8 : Int32) - p3)), (0, .int p1), (1, .int p2), (2, .int p3)]) hx hb dX9_passesAs_8 hl (by decide) rfl (fun ls hl => ?_)
  refine lv_iload_n hx hb dX9_passesAs_10 rfl (lv_at hl 2 rfl) ?_
  by_cases e1 : p1 = (1 : Int32)
  · refine s_sw hx hb (1 : Int32) e1 dX9_passesAs_11 (tgt := 44) (by decide) (by decide) rfl (by decide) ?_
    replace h := s_yes e1 h
    refine lv_iload hx hb dX9_passesAs_44 (lv_at hl 0 rfl) ?_
    obtain rfl := Option.some.inj h
    exact hend _ _ _ _ dX9_passesAs_46 hS
  replace h := s_no e1 h
  by_cases e2 : p1 = (2 : Int32)
  · refine s_sw hx hb (2 : Int32) e2 dX9_passesAs_11 (tgt := 47) (by decide) (by decide) rfl (by decide) ?_
    replace h := s_yes e2 h
    refine lv_iload_n hx hb dX9_passesAs_47 rfl (lv_at hl 1 rfl) ?_
    refine lv_iload_n hx hb dX9_passesAs_48 rfl (lv_at hl 3 rfl) ?_
    refine lv_iadd hx hb dX9_passesAs_49 ?_
    obtain rfl := Option.some.inj h
    exact hend _ _ _ _ dX9_passesAs_50 hS
  replace h := s_no e2 h
  by_cases e3 : p1 = (3 : Int32)
  · refine s_sw hx hb (3 : Int32) e3 dX9_passesAs_11 (tgt := 51) (by decide) (by decide) rfl (by decide) ?_
    replace h := s_yes e3 h
    refine lv_iload hx hb dX9_passesAs_51 (lv_at hl 0 rfl) ?_
    refine lv_iload_n hx hb dX9_passesAs_53 rfl (lv_at hl 3 rfl) ?_
    refine lv_isub hx hb dX9_passesAs_54 ?_
    obtain rfl := Option.some.inj h
    exact hend _ _ _ _ dX9_passesAs_55 hS
  replace h := s_no e3 h
  by_cases e4 : p1 = (4 : Int32)
  · refine s_sw hx hb (4 : Int32) e4 dX9_passesAs_11 (tgt := 56) (by decide) (by decide) rfl (by decide) ?_
    replace h := s_yes e4 h
    refine lv_iload_n hx hb dX9_passesAs_56 rfl (lv_at hl 3 rfl) ?_
    refine lv_iconst (v := (4 : Int32)) hx hb dX9_passesAs_57 (by decide) ?_
    refine lv_icmp_ne (tgt := 66) hx hb dX9_passesAs_58 (by decide) (fun c5 => ?_) (fun c5 => ?_)
    · replace h := s_no c5 h
      refine lv_iload_n hx hb dX9_passesAs_66 rfl (lv_at hl 1 rfl) ?_
      refine lv_iload_n hx hb dX9_passesAs_67 rfl (lv_at hl 3 rfl) ?_
      refine lv_iadd hx hb dX9_passesAs_68 ?_
      obtain rfl := Option.some.inj h
      exact hend _ _ _ _ dX9_passesAs_69 hS
    replace h := s_yes c5 h
    refine lv_bipush (v := (99 : Int32)) hx hb dX9_passesAs_61 (by decide) ?_
    refine lv_goto (tgt := 69) hx hb dX9_passesAs_63 (by decide) ?_
    obtain rfl := Option.some.inj h
    exact hend _ _ _ _ dX9_passesAs_69 hS
  replace h := s_no e4 h
  by_cases e6 : p1 = (5 : Int32)
  · refine s_sw hx hb (5 : Int32) e6 dX9_passesAs_11 (tgt := 70) (by decide) (by decide) rfl (by decide) ?_
    replace h := s_yes e6 h
    refine lv_iload_n hx hb dX9_passesAs_70 rfl (lv_at hl 4 rfl) ?_
    refine lv_if_ne (tgt := 81) hx hb dX9_passesAs_71 (by decide) (fun c7 => ?_) (fun c7 => ?_)
    · replace h := s_no c7 h
      refine lv_iload hx hb dX9_passesAs_81 (lv_at hl 0 rfl) ?_
      obtain rfl := Option.some.inj h
      exact hend _ _ _ _ dX9_passesAs_83 hS
    replace h := s_yes c7 h
    refine lv_iconst (v := (2 : Int32)) hx hb dX9_passesAs_74 (by decide) ?_
    refine lv_iload hx hb dX9_passesAs_75 (lv_at hl 0 rfl) ?_
    refine lv_imul hx hb dX9_passesAs_77 ?_
    refine lv_goto (tgt := 83) hx hb dX9_passesAs_78 (by decide) ?_
    obtain rfl := Option.some.inj h
    exact hend _ _ _ _ dX9_passesAs_83 hS
  replace h := s_no e6 h
  refine lv_tableOut (tgt := 84) hx hb dX9_passesAs_11 (by have ze1 := s_ne 1 (by exact e1) (by decide); have ze2 := s_ne 2 (by exact e2) (by decide); have ze3 := s_ne 3 (by exact e3) (by decide); have ze4 := s_ne 4 (by exact e4) (by decide); have ze6 := s_ne 5 (by exact e6) (by decide); omega) (by decide) ?_
  refine lv_iload_n hx hb dX9_passesAs_84 rfl (lv_at hl 1 rfl) ?_
  obtain rfl := Option.some.inj h
  exact hend _ _ _ _ dX9_passesAs_85 hS

-- InnTurnedModel.likelyOf([II)I
def wd_X9_likelyOf (cI cB cZ : ClassId) (a_p1 : Nat) (n_p1 : Nat) (p1 : (Nat → Int32)) : va_W := [(a_p1, .inl (cI, n_p1, .inl p1))]
abbrev rm_X9_likelyOf : Room := { frames := 1, cells := 0, slots := 0, locals := 25 }
def f_X9_likelyOf (n_p1 : Nat) (p1 : (Nat → Int32))  (p2 : Int32) : Option (Int32) := (if ¬ (((31 : Int32) + p2) < 0 ∨ n_p1 ≤ (Int32.toNatClampNeg ((31 : Int32) + p2))) then (if ¬ (((5 : Int32) + p2) < 0 ∨ n_p1 ≤ (Int32.toNatClampNeg ((5 : Int32) + p2))) then (if ¬ (((12 : Int32) + p2) < 0 ∨ n_p1 ≤ (Int32.toNatClampNeg ((12 : Int32) + p2))) then (if ¬ ((22 : Int32) < 0 ∨ n_p1 ≤ (Int32.toNatClampNeg (22 : Int32))) then ((f_X9_likelyAs (p1 (Int32.toNatClampNeg ((31 : Int32) + p2))) (p1 (Int32.toNatClampNeg ((5 : Int32) + p2))) (p1 (Int32.toNatClampNeg ((12 : Int32) + p2))) (p1 (Int32.toNatClampNeg (22 : Int32)))).bind fun q5 => some (q5)) else none) else none) else none) else none)
set_option maxHeartbeats 4000000 in
set_option maxRecDepth 100000 in
theorem c_X9_likelyOf (l : Launch) (D : va_G) (cI cB cZ : ClassId) (a_p1 : Nat) (n_p1 : Nat) (p1 : (Nat → Int32)) (p2 : Int32) (rv : Int32) (sz : Nat) (hf : f_X9_likelyOf n_p1 p1 p2 = some rv) : Met l yX9_likelyOf wsX9_likelyOf rm_X9_likelyOf (sPc D vwCl (s_tys cI cB cZ) [.ref a_p1, .int p2] (wd_X9_likelyOf cI cB cZ a_p1 n_p1 p1) sz) (sQi D vwCl (wd_X9_likelyOf cI cB cZ a_p1 n_p1 p1) (wd_X9_likelyOf cI cB cZ a_p1 n_p1 p1) sz rv) 0 0 (va_A (wd_X9_likelyOf cI cB cZ a_p1 n_p1 p1) sz) := by
  refine s_enter_n (cc := cX9_likelyOf) (nL := 2) (r := rv) (by decide) rfl (Nat.le_of_ble_eq_true rfl) ?_
  intro p e s m args below meth c A Q C0 hend ls hl hS
  have h := hf
  clear hf
  replace hl : lv_has ls 2 [(0, .ref a_p1), (1, .int p2)] := hl
  unfold f_X9_likelyOf at h
  obtain ⟨hx, hb, hml, hown, hts, hK, hA⟩ := id C0
  refine lv_aload_n hx hb dX9_likelyOf_0 rfl (lv_at hl 0 rfl) ?_
  refine lv_bipush (v := (31 : Int32)) hx hb dX9_likelyOf_1 (by decide) ?_
  refine lv_iload_n hx hb dX9_likelyOf_3 rfl (lv_at hl 1 rfl) ?_
  refine lv_iadd hx hb dX9_likelyOf_4 ?_
  obtain ⟨g1, h⟩ := s_guard h
  refine s_iald hx hb hK hS 0 rfl rfl g1 dX9_likelyOf_5 ?_
  refine lv_aload_n hx hb dX9_likelyOf_6 rfl (lv_at hl 0 rfl) ?_
  refine lv_iconst (v := (5 : Int32)) hx hb dX9_likelyOf_7 (by decide) ?_
  refine lv_iload_n hx hb dX9_likelyOf_8 rfl (lv_at hl 1 rfl) ?_
  refine lv_iadd hx hb dX9_likelyOf_9 ?_
  obtain ⟨g2, h⟩ := s_guard h
  refine s_iald hx hb hK hS 0 rfl rfl g2 dX9_likelyOf_10 ?_
  refine lv_aload_n hx hb dX9_likelyOf_11 rfl (lv_at hl 0 rfl) ?_
  refine lv_bipush (v := (12 : Int32)) hx hb dX9_likelyOf_12 (by decide) ?_
  refine lv_iload_n hx hb dX9_likelyOf_14 rfl (lv_at hl 1 rfl) ?_
  refine lv_iadd hx hb dX9_likelyOf_15 ?_
  obtain ⟨g3, h⟩ := s_guard h
  refine s_iald hx hb hK hS 0 rfl rfl g3 dX9_likelyOf_16 ?_
  refine lv_aload_n hx hb dX9_likelyOf_17 rfl (lv_at hl 0 rfl) ?_
  refine lv_bipush (v := (22 : Int32)) hx hb dX9_likelyOf_18 (by decide) ?_
  obtain ⟨g4, h⟩ := s_guard h
  refine s_iald hx hb hK hS 0 rfl rfl g4 dX9_likelyOf_20 ?_
  obtain ⟨q5, hq5, h⟩ := s_bind h
  refine u_calliS (r := q5) (As := [.int (p1 (Int32.toNatClampNeg ((31 : Int32) + p2))), .int (p1 (Int32.toNatClampNeg ((5 : Int32) + p2))), .int (p1 (Int32.toNatClampNeg ((12 : Int32) + p2))), .int (p1 (Int32.toNatClampNeg (22 : Int32)))]) (rest := []) (wc := ([] : va_W)) hx hb hml hown hts hK hA hl hS (c_X9_likelyAs l D cI cB cZ (p1 (Int32.toNatClampNeg ((31 : Int32) + p2))) (p1 (Int32.toNatClampNeg ((5 : Int32) + p2))) (p1 (Int32.toNatClampNeg ((12 : Int32) + p2))) (p1 (Int32.toNatClampNeg (22 : Int32))) _ _ hq5) (va_cwS 4 hts gX9_likelyOf_X9_likelyAs rfl rfl rfl (by decide +kernel) ⟨Nat.le_of_ble_eq_true rfl, Nat.le_of_ble_eq_true rfl⟩) [] rfl rfl rfl rfl (Nat.le_of_ble_eq_true rfl) dX9_likelyOf_21 (fun H locs hS => ?_)
  obtain rfl := Option.some.inj h
  exact hend _ _ _ _ dX9_likelyOf_24 hS

-- InnTurnedModel.wetOf([II)I
def wd_X9_wetOf (cI cB cZ : ClassId) (a_p1 : Nat) (n_p1 : Nat) (p1 : (Nat → Int32)) : va_W := [(a_p1, .inl (cI, n_p1, .inl p1))]
abbrev rm_X9_wetOf : Room := { frames := 0, cells := 0, slots := 0, locals := 0 }
def f_X9_wetOf (n_p1 : Nat) (p1 : (Nat → Int32))  (p2 : Int32) : Option (Int32) := (if ¬ (((25 : Int32) + (p2 - p2 / (6 : Int32) * (6 : Int32))) < 0 ∨ n_p1 ≤ (Int32.toNatClampNeg ((25 : Int32) + (p2 - p2 / (6 : Int32) * (6 : Int32))))) then some ((p1 (Int32.toNatClampNeg ((25 : Int32) + (p2 - p2 / (6 : Int32) * (6 : Int32)))))) else none)
set_option maxHeartbeats 4000000 in
set_option maxRecDepth 100000 in
theorem c_X9_wetOf (l : Launch) (D : va_G) (cI cB cZ : ClassId) (a_p1 : Nat) (n_p1 : Nat) (p1 : (Nat → Int32)) (p2 : Int32) (rv : Int32) (sz : Nat) (hf : f_X9_wetOf n_p1 p1 p2 = some rv) : Met l yX9_wetOf wsX9_wetOf rm_X9_wetOf (sPc D vwCl (s_tys cI cB cZ) [.ref a_p1, .int p2] (wd_X9_wetOf cI cB cZ a_p1 n_p1 p1) sz) (sQi D vwCl (wd_X9_wetOf cI cB cZ a_p1 n_p1 p1) (wd_X9_wetOf cI cB cZ a_p1 n_p1 p1) sz rv) 0 0 (va_A (wd_X9_wetOf cI cB cZ a_p1 n_p1 p1) sz) := by
  refine s_enter_n (cc := cX9_wetOf) (nL := 2) (r := rv) (by decide) rfl (Nat.le_of_ble_eq_true rfl) ?_
  intro p e s m args below meth c A Q C0 hend ls hl hS
  have h := hf
  clear hf
  replace hl : lv_has ls 2 [(0, .ref a_p1), (1, .int p2)] := hl
  unfold f_X9_wetOf at h
  obtain ⟨hx, hb, hml, hown, hts, hK, hA⟩ := id C0
  refine lv_aload_n hx hb dX9_wetOf_0 rfl (lv_at hl 0 rfl) ?_
  refine lv_bipush (v := (25 : Int32)) hx hb dX9_wetOf_1 (by decide) ?_
  refine lv_iload_n hx hb dX9_wetOf_3 rfl (lv_at hl 1 rfl) ?_
  refine lv_bipush (v := (6 : Int32)) hx hb dX9_wetOf_4 (by decide) ?_
  refine lv_irem hx hb dX9_wetOf_6 (by decide) ?_
  refine lv_iadd hx hb dX9_wetOf_7 ?_
  obtain ⟨g1, h⟩ := s_guard h
  refine s_iald hx hb hK hS 0 rfl rfl g1 dX9_wetOf_8 ?_
  obtain rfl := Option.some.inj h
  exact hend _ _ _ _ dX9_wetOf_9 hS

-- InnTurnedModel.passesNow([I)I
def wd_X9_passesNow (cI cB cZ : ClassId) (a_p1 : Nat) (n_p1 : Nat) (p1 : (Nat → Int32)) : va_W := [(a_p1, .inl (cI, n_p1, .inl p1))]
abbrev rm_X9_passesNow : Room := { frames := 1, cells := 0, slots := 0, locals := 24 }
def f_X9_passesNow (n_p1 : Nat) (p1 : (Nat → Int32))  : Option (Int32) := (if ¬ ((23 : Int32) < 0 ∨ n_p1 ≤ (Int32.toNatClampNeg (23 : Int32))) then (if ¬ ((22 : Int32) < 0 ∨ n_p1 ≤ (Int32.toNatClampNeg (22 : Int32))) then ((f_X9_wetOf n_p1 p1 (p1 (Int32.toNatClampNeg (22 : Int32)))).bind fun q3 => (if ¬ ((20 : Int32) < 0 ∨ n_p1 ≤ (Int32.toNatClampNeg (20 : Int32))) then ((f_X9_passesAs (p1 (Int32.toNatClampNeg (23 : Int32))) q3 (p1 (Int32.toNatClampNeg (20 : Int32)))).bind fun q5 => some (q5)) else none)) else none) else none)
set_option maxHeartbeats 4000000 in
set_option maxRecDepth 100000 in
theorem c_X9_passesNow (l : Launch) (D : va_G) (cI cB cZ : ClassId) (a_p1 : Nat) (n_p1 : Nat) (p1 : (Nat → Int32)) (rv : Int32) (sz : Nat) (hf : f_X9_passesNow n_p1 p1 = some rv) : Met l yX9_passesNow wsX9_passesNow rm_X9_passesNow (sPc D vwCl (s_tys cI cB cZ) [.ref a_p1] (wd_X9_passesNow cI cB cZ a_p1 n_p1 p1) sz) (sQi D vwCl (wd_X9_passesNow cI cB cZ a_p1 n_p1 p1) (wd_X9_passesNow cI cB cZ a_p1 n_p1 p1) sz rv) 0 0 (va_A (wd_X9_passesNow cI cB cZ a_p1 n_p1 p1) sz) := by
  refine s_enter_n (cc := cX9_passesNow) (nL := 1) (r := rv) (by decide) rfl (Nat.le_of_ble_eq_true rfl) ?_
  intro p e s m args below meth c A Q C0 hend ls hl hS
  have h := hf
  clear hf
  replace hl : lv_has ls 1 [(0, .ref a_p1)] := hl
  unfold f_X9_passesNow at h
  obtain ⟨hx, hb, hml, hown, hts, hK, hA⟩ := id C0
  refine lv_aload_n hx hb dX9_passesNow_0 rfl (lv_at hl 0 rfl) ?_
  refine lv_bipush (v := (23 : Int32)) hx hb dX9_passesNow_1 (by decide) ?_
  obtain ⟨g1, h⟩ := s_guard h
  refine s_iald hx hb hK hS 0 rfl rfl g1 dX9_passesNow_3 ?_
  refine lv_aload_n hx hb dX9_passesNow_4 rfl (lv_at hl 0 rfl) ?_
  refine lv_aload_n hx hb dX9_passesNow_5 rfl (lv_at hl 0 rfl) ?_
  refine lv_bipush (v := (22 : Int32)) hx hb dX9_passesNow_6 (by decide) ?_
  obtain ⟨g2, h⟩ := s_guard h
  refine s_iald hx hb hK hS 0 rfl rfl g2 dX9_passesNow_8 ?_
  obtain ⟨q3, hq3, h⟩ := s_bind h
  refine u_calliS (r := q3) (As := [.ref a_p1, .int (p1 (Int32.toNatClampNeg (22 : Int32)))]) (rest := [.int (p1 (Int32.toNatClampNeg (23 : Int32)))]) (wc := (wd_X9_wetOf cI cB cZ a_p1 n_p1 p1)) hx hb hml hown hts hK hA hl hS (c_X9_wetOf l D cI cB cZ a_p1 n_p1 p1 (p1 (Int32.toNatClampNeg (22 : Int32))) _ _ hq3) (va_cwS 2 hts gX9_passesNow_X9_wetOf rfl rfl rfl (by decide +kernel) ⟨Nat.le_of_ble_eq_true rfl, Nat.le_of_ble_eq_true rfl⟩) [0] rfl rfl rfl rfl (Nat.le_of_ble_eq_true rfl) dX9_passesNow_9 (fun H locs hS => ?_)
  refine lv_aload_n hx hb dX9_passesNow_12 rfl (lv_at hl 0 rfl) ?_
  refine lv_bipush (v := (20 : Int32)) hx hb dX9_passesNow_13 (by decide) ?_
  obtain ⟨g4, h⟩ := s_guard h
  refine s_iald hx hb hK hS 0 rfl rfl g4 dX9_passesNow_15 ?_
  obtain ⟨q5, hq5, h⟩ := s_bind h
  refine u_calliS (r := q5) (As := [.int (p1 (Int32.toNatClampNeg (23 : Int32))), .int q3, .int (p1 (Int32.toNatClampNeg (20 : Int32)))]) (rest := []) (wc := ([] : va_W)) hx hb hml hown hts hK hA hl hS (c_X9_passesAs l D cI cB cZ (p1 (Int32.toNatClampNeg (23 : Int32))) q3 (p1 (Int32.toNatClampNeg (20 : Int32))) _ _ hq5) (va_cwS 3 hts gX9_passesNow_X9_passesAs rfl rfl rfl (by decide +kernel) ⟨Nat.le_of_ble_eq_true rfl, Nat.le_of_ble_eq_true rfl⟩) [] rfl rfl rfl rfl (Nat.le_of_ble_eq_true rfl) dX9_passesNow_16 (fun H locs hS => ?_)
  obtain rfl := Option.some.inj h
  exact hend _ _ _ _ dX9_passesNow_19 hS

-- InnTurnedModel.isFree([I)Z
def wd_X9_isFree (cI cB cZ : ClassId) (a_p1 : Nat) (n_p1 : Nat) (p1 : (Nat → Int32)) : va_W := [(a_p1, .inl (cI, n_p1, .inl p1))]
abbrev rm_X9_isFree : Room := { frames := 1, cells := 0, slots := 0, locals := 22 }
def f_X9_isFree (n_p1 : Nat) (p1 : (Nat → Int32))  : Option (Int32) := (if ¬ ((19 : Int32) < 0 ∨ n_p1 ≤ (Int32.toNatClampNeg (19 : Int32))) then ((f_X9_bits (p1 (Int32.toNatClampNeg (19 : Int32)))).bind fun q2 => (if ¬ ((24 : Int32) < 0 ∨ n_p1 ≤ (Int32.toNatClampNeg (24 : Int32))) then (if (p1 (Int32.toNatClampNeg (24 : Int32))) ≤ q2 then some ((0 : Int32)) else some ((1 : Int32))) else none)) else none)
set_option maxHeartbeats 4000000 in
set_option maxRecDepth 100000 in
theorem c_X9_isFree (l : Launch) (D : va_G) (cI cB cZ : ClassId) (a_p1 : Nat) (n_p1 : Nat) (p1 : (Nat → Int32)) (rv : Int32) (sz : Nat) (hf : f_X9_isFree n_p1 p1 = some rv) : Met l yX9_isFree wsX9_isFree rm_X9_isFree (sPc D vwCl (s_tys cI cB cZ) [.ref a_p1] (wd_X9_isFree cI cB cZ a_p1 n_p1 p1) sz) (sQi D vwCl (wd_X9_isFree cI cB cZ a_p1 n_p1 p1) (wd_X9_isFree cI cB cZ a_p1 n_p1 p1) sz rv) 0 0 (va_A (wd_X9_isFree cI cB cZ a_p1 n_p1 p1) sz) := by
  refine s_enter_z (cc := cX9_isFree) (nL := 1) (r := rv) (by decide) rfl (Nat.le_of_ble_eq_true rfl) ?_
  intro p e s m args below meth c A Q C0 hend ls hl hS
  have h := hf
  clear hf
  replace hl : lv_has ls 1 [(0, .ref a_p1)] := hl
  unfold f_X9_isFree at h
  obtain ⟨hx, hb, hml, hown, hts, hK, hA⟩ := id C0
  refine lv_aload_n hx hb dX9_isFree_0 rfl (lv_at hl 0 rfl) ?_
  refine lv_bipush (v := (19 : Int32)) hx hb dX9_isFree_1 (by decide) ?_
  obtain ⟨g1, h⟩ := s_guard h
  refine s_iald hx hb hK hS 0 rfl rfl g1 dX9_isFree_3 ?_
  obtain ⟨q2, hq2, h⟩ := s_bind h
  refine u_calliS (r := q2) (As := [.int (p1 (Int32.toNatClampNeg (19 : Int32)))]) (rest := []) (wc := ([] : va_W)) hx hb hml hown hts hK hA hl hS (c_X9_bits l D cI cB cZ (p1 (Int32.toNatClampNeg (19 : Int32))) _ _ hq2) (va_cwS 1 hts gX9_isFree_X9_bits rfl rfl rfl (by decide +kernel) ⟨Nat.le_of_ble_eq_true rfl, Nat.le_of_ble_eq_true rfl⟩) [] rfl rfl rfl rfl (Nat.le_of_ble_eq_true rfl) dX9_isFree_4 (fun H locs hS => ?_)
  refine lv_aload_n hx hb dX9_isFree_7 rfl (lv_at hl 0 rfl) ?_
  refine lv_bipush (v := (24 : Int32)) hx hb dX9_isFree_8 (by decide) ?_
  obtain ⟨g3, h⟩ := s_guard h
  refine s_iald hx hb hK hS 0 rfl rfl g3 dX9_isFree_10 ?_
  refine lv_icmp_ge (tgt := 18) hx hb dX9_isFree_11 (by decide) (fun c4 => ?_) (fun c4 => ?_)
  · replace h := s_yes c4 h
    refine lv_iconst (v := (0 : Int32)) hx hb dX9_isFree_18 (by decide) ?_
    obtain rfl := Option.some.inj h
    exact hend _ _ _ _ dX9_isFree_19 (Or.inl rfl) hS
  replace h := s_no c4 h
  refine lv_iconst (v := (1 : Int32)) hx hb dX9_isFree_14 (by decide) ?_
  refine lv_goto (tgt := 19) hx hb dX9_isFree_15 (by decide) ?_
  obtain rfl := Option.some.inj h
  exact hend _ _ _ _ dX9_isFree_19 (Or.inr rfl) hS

-- InnTurnedModel.letsIn([II)Z
def wd_X9_letsIn (cI cB cZ : ClassId) (a_p1 : Nat) (n_p1 : Nat) (p1 : (Nat → Int32)) : va_W := [(a_p1, .inl (cI, n_p1, .inl p1))]
abbrev rm_X9_letsIn : Room := { frames := 2, cells := 0, slots := 0, locals := 46 }
def f_X9_letsIn (n_p1 : Nat) (p1 : (Nat → Int32))  (p2 : Int32) : Option (Int32) := (if ¬ ((19 : Int32) < 0 ∨ n_p1 ≤ (Int32.toNatClampNeg (19 : Int32))) then ((f_X9_has (p1 (Int32.toNatClampNeg (19 : Int32))) p2).bind fun q2 => (if q2 = 0 then ((f_X9_isFree n_p1 p1).bind fun q4 => (if q4 = 0 then some ((0 : Int32)) else ((f_X9_likelyOf n_p1 p1 p2).bind fun q6 => ((f_X9_passesNow n_p1 p1).bind fun q7 => (if q7 < q6 then some ((0 : Int32)) else some ((1 : Int32))))))) else some ((0 : Int32)))) else none)
set_option maxHeartbeats 4000000 in
set_option maxRecDepth 100000 in
theorem c_X9_letsIn (l : Launch) (D : va_G) (cI cB cZ : ClassId) (a_p1 : Nat) (n_p1 : Nat) (p1 : (Nat → Int32)) (p2 : Int32) (rv : Int32) (sz : Nat) (hf : f_X9_letsIn n_p1 p1 p2 = some rv) : Met l yX9_letsIn wsX9_letsIn rm_X9_letsIn (sPc D vwCl (s_tys cI cB cZ) [.ref a_p1, .int p2] (wd_X9_letsIn cI cB cZ a_p1 n_p1 p1) sz) (sQi D vwCl (wd_X9_letsIn cI cB cZ a_p1 n_p1 p1) (wd_X9_letsIn cI cB cZ a_p1 n_p1 p1) sz rv) 0 0 (va_A (wd_X9_letsIn cI cB cZ a_p1 n_p1 p1) sz) := by
  refine s_enter_z (cc := cX9_letsIn) (nL := 2) (r := rv) (by decide) rfl (Nat.le_of_ble_eq_true rfl) ?_
  intro p e s m args below meth c A Q C0 hend ls hl hS
  have h := hf
  clear hf
  replace hl : lv_has ls 2 [(0, .ref a_p1), (1, .int p2)] := hl
  unfold f_X9_letsIn at h
  obtain ⟨hx, hb, hml, hown, hts, hK, hA⟩ := id C0
  refine lv_aload_n hx hb dX9_letsIn_0 rfl (lv_at hl 0 rfl) ?_
  refine lv_bipush (v := (19 : Int32)) hx hb dX9_letsIn_1 (by decide) ?_
  obtain ⟨g1, h⟩ := s_guard h
  refine s_iald hx hb hK hS 0 rfl rfl g1 dX9_letsIn_3 ?_
  refine lv_iload_n hx hb dX9_letsIn_4 rfl (lv_at hl 1 rfl) ?_
  obtain ⟨q2, hq2, h⟩ := s_bind h
  refine u_calliS (r := q2) (As := [.int (p1 (Int32.toNatClampNeg (19 : Int32))), .int p2]) (rest := []) (wc := ([] : va_W)) hx hb hml hown hts hK hA hl hS (c_X9_has l D cI cB cZ (p1 (Int32.toNatClampNeg (19 : Int32))) p2 _ _ hq2) (va_cwS 2 hts gX9_letsIn_X9_has rfl rfl rfl (by decide +kernel) ⟨Nat.le_of_ble_eq_true rfl, Nat.le_of_ble_eq_true rfl⟩) [] rfl rfl rfl rfl (Nat.le_of_ble_eq_true rfl) dX9_letsIn_5 (fun H locs hS => ?_)
  refine lv_if_ne (tgt := 34) hx hb dX9_letsIn_8 (by decide) (fun c3 => ?_) (fun c3 => ?_)
  · replace h := s_no c3 h
    refine lv_iconst (v := (0 : Int32)) hx hb dX9_letsIn_34 (by decide) ?_
    obtain rfl := Option.some.inj h
    exact hend _ _ _ _ dX9_letsIn_35 (Or.inl rfl) hS
  replace h := s_yes c3 h
  refine lv_aload_n hx hb dX9_letsIn_11 rfl (lv_at hl 0 rfl) ?_
  obtain ⟨q4, hq4, h⟩ := s_bind h
  refine u_calliS (r := q4) (As := [.ref a_p1]) (rest := []) (wc := (wd_X9_isFree cI cB cZ a_p1 n_p1 p1)) hx hb hml hown hts hK hA hl hS (c_X9_isFree l D cI cB cZ a_p1 n_p1 p1 _ _ hq4) (va_cwS 1 hts gX9_letsIn_X9_isFree rfl rfl rfl (by decide +kernel) ⟨Nat.le_of_ble_eq_true rfl, Nat.le_of_ble_eq_true rfl⟩) [0] rfl rfl rfl rfl (Nat.le_of_ble_eq_true rfl) dX9_letsIn_12 (fun H locs hS => ?_)
  refine lv_if_eq (tgt := 34) hx hb dX9_letsIn_15 (by decide) (fun c5 => ?_) (fun c5 => ?_)
  · replace h := s_yes c5 h
    refine lv_iconst (v := (0 : Int32)) hx hb dX9_letsIn_34 (by decide) ?_
    obtain rfl := Option.some.inj h
    exact hend _ _ _ _ dX9_letsIn_35 (Or.inl rfl) hS
  replace h := s_no c5 h
  refine lv_aload_n hx hb dX9_letsIn_18 rfl (lv_at hl 0 rfl) ?_
  refine lv_iload_n hx hb dX9_letsIn_19 rfl (lv_at hl 1 rfl) ?_
  obtain ⟨q6, hq6, h⟩ := s_bind h
  refine u_calliS (r := q6) (As := [.ref a_p1, .int p2]) (rest := []) (wc := (wd_X9_likelyOf cI cB cZ a_p1 n_p1 p1)) hx hb hml hown hts hK hA hl hS (c_X9_likelyOf l D cI cB cZ a_p1 n_p1 p1 p2 _ _ hq6) (va_cwS 2 hts gX9_letsIn_X9_likelyOf rfl rfl rfl (by decide +kernel) ⟨Nat.le_of_ble_eq_true rfl, Nat.le_of_ble_eq_true rfl⟩) [0] rfl rfl rfl rfl (Nat.le_of_ble_eq_true rfl) dX9_letsIn_20 (fun H locs hS => ?_)
  refine lv_aload_n hx hb dX9_letsIn_23 rfl (lv_at hl 0 rfl) ?_
  obtain ⟨q7, hq7, h⟩ := s_bind h
  refine u_calliS (r := q7) (As := [.ref a_p1]) (rest := [.int q6]) (wc := (wd_X9_passesNow cI cB cZ a_p1 n_p1 p1)) hx hb hml hown hts hK hA hl hS (c_X9_passesNow l D cI cB cZ a_p1 n_p1 p1 _ _ hq7) (va_cwS 1 hts gX9_letsIn_X9_passesNow rfl rfl rfl (by decide +kernel) ⟨Nat.le_of_ble_eq_true rfl, Nat.le_of_ble_eq_true rfl⟩) [0] rfl rfl rfl rfl (Nat.le_of_ble_eq_true rfl) dX9_letsIn_24 (fun H locs hS => ?_)
  refine lv_icmp_gt (tgt := 34) hx hb dX9_letsIn_27 (by decide) (fun c8 => ?_) (fun c8 => ?_)
  · replace h := s_yes c8 h
    refine lv_iconst (v := (0 : Int32)) hx hb dX9_letsIn_34 (by decide) ?_
    obtain rfl := Option.some.inj h
    exact hend _ _ _ _ dX9_letsIn_35 (Or.inl rfl) hS
  replace h := s_no c8 h
  refine lv_iconst (v := (1 : Int32)) hx hb dX9_letsIn_30 (by decide) ?_
  refine lv_goto (tgt := 35) hx hb dX9_letsIn_31 (by decide) ?_
  obtain rfl := Option.some.inj h
  exact hend _ _ _ _ dX9_letsIn_35 (Or.inr rfl) hS

-- InnTurnedModel.more(II)I
abbrev rm_X9_more : Room := { frames := 0, cells := 0, slots := 0, locals := 0 }
def f_X9_more    (p1 : Int32) (p2 : Int32) : Option (Int32) := (if p2 ≤ p1 then some (p2) else some ((p1 + (1 : Int32))))
set_option maxHeartbeats 4000000 in
set_option maxRecDepth 100000 in
theorem c_X9_more (l : Launch) (D : va_G) (cI cB cZ : ClassId) (p1 : Int32) (p2 : Int32) (rv : Int32) (sz : Nat) (hf : f_X9_more p1 p2 = some rv) : Met l yX9_more wsX9_more rm_X9_more (sPc D vwCl (s_tys cI cB cZ) [.int p1, .int p2] ([] : va_W) sz) (sQi D vwCl ([] : va_W) ([] : va_W) sz rv) 0 0 (va_A ([] : va_W) sz) := by
  refine s_enter_n (cc := cX9_more) (nL := 2) (r := rv) (by decide) rfl (Nat.le_of_ble_eq_true rfl) ?_
  intro p e s m args below meth c A Q C0 hend ls hl hS
  have h := hf
  clear hf
  replace hl : lv_has ls 2 [(0, .int p1), (1, .int p2)] := hl
  unfold f_X9_more at h
  obtain ⟨hx, hb, hml, hown, hts, hK, hA⟩ := id C0
  refine lv_iload_n hx hb dX9_more_0 rfl (lv_at hl 0 rfl) ?_
  refine lv_iload_n hx hb dX9_more_1 rfl (lv_at hl 1 rfl) ?_
  refine lv_icmp_ge (tgt := 11) hx hb dX9_more_2 (by decide) (fun c1 => ?_) (fun c1 => ?_)
  · replace h := s_yes c1 h
    refine lv_iload_n hx hb dX9_more_11 rfl (lv_at hl 1 rfl) ?_
    obtain rfl := Option.some.inj h
    exact hend _ _ _ _ dX9_more_12 hS
  replace h := s_no c1 h
  refine lv_iload_n hx hb dX9_more_5 rfl (lv_at hl 0 rfl) ?_
  refine lv_iconst (v := (1 : Int32)) hx hb dX9_more_6 (by decide) ?_
  refine lv_iadd hx hb dX9_more_7 ?_
  refine lv_goto (tgt := 12) hx hb dX9_more_8 (by decide) ?_
  obtain rfl := Option.some.inj h
  exact hend _ _ _ _ dX9_more_12 hS

-- InnTurnedModel.goCome([II)I
def wd_X9_goCome (cI cB cZ : ClassId) (a_p1 : Nat) (n_p1 : Nat) (p1 : (Nat → Int32)) : va_W := [(a_p1, .inl (cI, n_p1, .inl p1))]
abbrev rm_X9_goCome : Room := { frames := 3, cells := 0, slots := 0, locals := 67 }
def f_X9_goCome_b54 (n_p1 : Nat)  (p1 : (Nat → Int32)) (l2 : Int32) : Option (Int32 × (Nat → Int32)) := (if ¬ ((20 : Int32) < 0 ∨ n_p1 ≤ (Int32.toNatClampNeg (20 : Int32))) then ((f_X9_more (p1 (Int32.toNatClampNeg (20 : Int32))) (99 : Int32)).bind fun q2 => (if ¬ ((20 : Int32) < 0 ∨ n_p1 ≤ (Int32.toNatClampNeg (20 : Int32))) then (if l2 = 0 then some ((0 : Int32), (upd p1 (Int32.toNatClampNeg (20 : Int32)) q2)) else some ((1 : Int32), (upd p1 (Int32.toNatClampNeg (20 : Int32)) q2))) else none)) else none)
set_option maxHeartbeats 4000000 in
set_option maxRecDepth 100000 in
theorem w_X9_goCome_b54 {p : Program} {l : Launch} {e : Env} {s : State} {m : MethodId} {args : Array Value} {below : List Frame} {meth : Method} {c : Code} {A : Nat → Prop} {Q : State → Prop} {D : va_G} {cI cB cZ : ClassId} {a_p1 : Nat} {n_p1 : Nat} (C0 : Cx p s m args c cX9_goCome 3 RX9 wsX9_goCome D (s_tys cI cB cZ) A) {rv : Int32 × (Nat → Int32)} (hend : ∀ (pc : Nat) (H : Heap) (locs : List Loc) (ls : Array Slot), decode cX9_goCome pc = .ok (.ireturn, 1) → sS D vwCl A s.heap (wd_X9_goCome cI cB cZ a_p1 n_p1 rv.2) H locs → W p l e rm_X9_goCome s m args below meth c H locs 0 0 Q (F0 m pc ls [.int rv.1])) : ∀ (p1 : (Nat → Int32)) (l2 : Int32) (H : Heap) (locs : List Loc) (ls : Array Slot), f_X9_goCome_b54 n_p1 p1 l2 = some rv → sS D vwCl A s.heap (wd_X9_goCome cI cB cZ a_p1 n_p1 p1) H locs → lv_has ls 3 [(0, .ref a_p1), (2, .int l2)] → W p l e rm_X9_goCome s m args below meth c H locs 0 0 Q (F0 m 54 ls []) := by
  obtain ⟨hx, hb, hml, hown, hts, hK, hA⟩ := id C0
  intro p1 l2 H locs ls h hS hl
  unfold f_X9_goCome_b54 at h
  refine lv_aload_n hx hb dX9_goCome_54 rfl (lv_at hl 0 rfl) ?_
  refine lv_bipush (v := (20 : Int32)) hx hb dX9_goCome_55 (by decide) ?_
  refine lv_aload_n hx hb dX9_goCome_57 rfl (lv_at hl 0 rfl) ?_
  refine lv_bipush (v := (20 : Int32)) hx hb dX9_goCome_58 (by decide) ?_
  obtain ⟨g1, h⟩ := s_guard h
  refine s_iald hx hb hK hS 0 rfl rfl g1 dX9_goCome_60 ?_
  refine lv_bipush (v := (99 : Int32)) hx hb dX9_goCome_61 (by decide) ?_
  obtain ⟨q2, hq2, h⟩ := s_bind h
  refine u_calliS (r := q2) (As := [.int (p1 (Int32.toNatClampNeg (20 : Int32))), .int (99 : Int32)]) (rest := [.int (20 : Int32), .ref a_p1]) (wc := ([] : va_W)) hx hb hml hown hts hK hA hl hS (c_X9_more l D cI cB cZ (p1 (Int32.toNatClampNeg (20 : Int32))) (99 : Int32) _ _ hq2) (va_cwS 2 hts gX9_goCome_X9_more rfl rfl rfl (by decide +kernel) ⟨Nat.le_of_ble_eq_true rfl, Nat.le_of_ble_eq_true rfl⟩) [] rfl rfl rfl rfl (Nat.le_of_ble_eq_true rfl) dX9_goCome_63 (fun H locs hS => ?_)
  obtain ⟨g3, h⟩ := s_guard h
  refine s_iast (ws' := (wd_X9_goCome cI cB cZ a_p1 n_p1 (upd p1 (Int32.toNatClampNeg (20 : Int32)) q2))) hx hb hK hS 0 rfl rfl g3 rfl dX9_goCome_66 (fun H locs hS => ?_)
  refine lv_iload_n hx hb dX9_goCome_67 rfl (lv_at hl 1 rfl) ?_
  refine lv_if_eq (tgt := 75) hx hb dX9_goCome_68 (by decide) (fun c4 => ?_) (fun c4 => ?_)
  · replace h := s_yes c4 h
    refine lv_iconst (v := (0 : Int32)) hx hb dX9_goCome_75 (by decide) ?_
    obtain rfl := Option.some.inj h
    exact hend _ _ _ _ dX9_goCome_76 hS
  replace h := s_no c4 h
  refine lv_iconst (v := (1 : Int32)) hx hb dX9_goCome_71 (by decide) ?_
  refine lv_goto (tgt := 76) hx hb dX9_goCome_72 (by decide) ?_
  obtain rfl := Option.some.inj h
  exact hend _ _ _ _ dX9_goCome_76 hS
def f_X9_goCome (n_p1 : Nat)  (p1 : (Nat → Int32)) (p2 : Int32) : Option (Int32 × (Nat → Int32)) := ((f_X9_letsIn n_p1 p1 p2).bind fun q5 => (if q5 = 0 then (if ¬ ((21 : Int32) < 0 ∨ n_p1 ≤ (Int32.toNatClampNeg (21 : Int32))) then ((f_X9_more (p1 (Int32.toNatClampNeg (21 : Int32))) (9999 : Int32)).bind fun q8 => (if ¬ ((21 : Int32) < 0 ∨ n_p1 ≤ (Int32.toNatClampNeg (21 : Int32))) then f_X9_goCome_b54  n_p1 (upd p1 (Int32.toNatClampNeg (21 : Int32)) q8) q5 else none)) else none) else (if ¬ ((19 : Int32) < 0 ∨ n_p1 ≤ (Int32.toNatClampNeg (19 : Int32))) then (if ¬ ((19 : Int32) < 0 ∨ n_p1 ≤ (Int32.toNatClampNeg (19 : Int32))) then (if ¬ (((12 : Int32) + p2) < 0 ∨ n_p1 ≤ (Int32.toNatClampNeg ((12 : Int32) + p2))) then ((f_X9_more ((upd p1 (Int32.toNatClampNeg (19 : Int32)) ((p1 (Int32.toNatClampNeg (19 : Int32))) ||| ((1 : Int32) <<< (p2 &&& 31)))) (Int32.toNatClampNeg ((12 : Int32) + p2))) (99 : Int32)).bind fun q13 => (if ¬ (((12 : Int32) + p2) < 0 ∨ n_p1 ≤ (Int32.toNatClampNeg ((12 : Int32) + p2))) then f_X9_goCome_b54  n_p1 (upd (upd p1 (Int32.toNatClampNeg (19 : Int32)) ((p1 (Int32.toNatClampNeg (19 : Int32))) ||| ((1 : Int32) <<< (p2 &&& 31)))) (Int32.toNatClampNeg ((12 : Int32) + p2)) q13) q5 else none)) else none) else none) else none)))
set_option maxHeartbeats 4000000 in
set_option maxRecDepth 100000 in
theorem c_X9_goCome (l : Launch) (D : va_G) (cI cB cZ : ClassId) (a_p1 : Nat) (n_p1 : Nat) (p1 : (Nat → Int32)) (p2 : Int32) (rv : Int32 × (Nat → Int32)) (sz : Nat) (hf : f_X9_goCome n_p1 p1 p2 = some rv) : Met l yX9_goCome wsX9_goCome rm_X9_goCome (sPc D vwCl (s_tys cI cB cZ) [.ref a_p1, .int p2] (wd_X9_goCome cI cB cZ a_p1 n_p1 p1) sz) (sQi D vwCl (wd_X9_goCome cI cB cZ a_p1 n_p1 p1) (wd_X9_goCome cI cB cZ a_p1 n_p1 rv.2) sz rv.1) 0 0 (va_A (wd_X9_goCome cI cB cZ a_p1 n_p1 p1) sz) := by
  refine s_enter_n (cc := cX9_goCome) (nL := 3) (r := rv.1) (by decide) rfl (Nat.le_of_ble_eq_true rfl) ?_
  intro p e s m args below meth c A Q C0 hend ls hl hS
  have h := hf
  clear hf
  replace hl : lv_has ls 3 [(0, .ref a_p1), (1, .int p2)] := hl
  unfold f_X9_goCome at h
  obtain ⟨hx, hb, hml, hown, hts, hK, hA⟩ := id C0
  refine lv_aload_n hx hb dX9_goCome_0 rfl (lv_at hl 0 rfl) ?_
  refine lv_iload_n hx hb dX9_goCome_1 rfl (lv_at hl 1 rfl) ?_
  obtain ⟨q5, hq5, h⟩ := s_bind h
  refine u_calliS (r := q5) (As := [.ref a_p1, .int p2]) (rest := []) (wc := (wd_X9_letsIn cI cB cZ a_p1 n_p1 p1)) hx hb hml hown hts hK hA hl hS (c_X9_letsIn l D cI cB cZ a_p1 n_p1 p1 p2 _ _ hq5) (va_cwS 2 hts gX9_goCome_X9_letsIn rfl rfl rfl (by decide +kernel) ⟨Nat.le_of_ble_eq_true rfl, Nat.le_of_ble_eq_true rfl⟩) [0] rfl rfl rfl rfl (Nat.le_of_ble_eq_true rfl) dX9_goCome_2 (fun H locs hS => ?_)
  refine lv_istore_n (lv' := [(2, .int q5), (0, .ref a_p1), (1, .int p2)]) hx hb dX9_goCome_5 rfl hl (by decide) rfl (fun ls hl => ?_)
  refine lv_iload_n hx hb dX9_goCome_6 rfl (lv_at hl 0 rfl) ?_
  refine lv_if_eq (tgt := 40) hx hb dX9_goCome_7 (by decide) (fun c6 => ?_) (fun c6 => ?_)
  · replace h := s_yes c6 h
    refine lv_aload_n hx hb dX9_goCome_40 rfl (lv_at hl 1 rfl) ?_
    refine lv_bipush (v := (21 : Int32)) hx hb dX9_goCome_41 (by decide) ?_
    refine lv_aload_n hx hb dX9_goCome_43 rfl (lv_at hl 1 rfl) ?_
    refine lv_bipush (v := (21 : Int32)) hx hb dX9_goCome_44 (by decide) ?_
    obtain ⟨g7, h⟩ := s_guard h
    refine s_iald hx hb hK hS 0 rfl rfl g7 dX9_goCome_46 ?_
    refine lv_sipush (v := (9999 : Int32)) hx hb dX9_goCome_47 (by decide) ?_
    obtain ⟨q8, hq8, h⟩ := s_bind h
    refine u_calliS (r := q8) (As := [.int (p1 (Int32.toNatClampNeg (21 : Int32))), .int (9999 : Int32)]) (rest := [.int (21 : Int32), .ref a_p1]) (wc := ([] : va_W)) hx hb hml hown hts hK hA hl hS (c_X9_more l D cI cB cZ (p1 (Int32.toNatClampNeg (21 : Int32))) (9999 : Int32) _ _ hq8) (va_cwS 2 hts gX9_goCome_X9_more rfl rfl rfl (by decide +kernel) ⟨Nat.le_of_ble_eq_true rfl, Nat.le_of_ble_eq_true rfl⟩) [] rfl rfl rfl rfl (Nat.le_of_ble_eq_true rfl) dX9_goCome_50 (fun H locs hS => ?_)
    obtain ⟨g9, h⟩ := s_guard h
    refine s_iast (ws' := (wd_X9_goCome cI cB cZ a_p1 n_p1 (upd p1 (Int32.toNatClampNeg (21 : Int32)) q8))) hx hb hK hS 0 rfl rfl g9 rfl dX9_goCome_53 (fun H locs hS => ?_)
    exact w_X9_goCome_b54 C0 hend  (upd p1 (Int32.toNatClampNeg (21 : Int32)) q8) q5 _ _ _ h hS (lv_sub hl [1, 0] rfl)
  replace h := s_no c6 h
  refine lv_aload_n hx hb dX9_goCome_10 rfl (lv_at hl 1 rfl) ?_
  refine lv_bipush (v := (19 : Int32)) hx hb dX9_goCome_11 (by decide) ?_
  refine lv_dup2_11 hx hb dX9_goCome_13 rfl rfl ?_
  obtain ⟨g10, h⟩ := s_guard h
  refine s_iald hx hb hK hS 0 rfl rfl g10 dX9_goCome_14 ?_
  refine lv_iconst (v := (1 : Int32)) hx hb dX9_goCome_15 (by decide) ?_
  refine lv_iload_n hx hb dX9_goCome_16 rfl (lv_at hl 2 rfl) ?_
  refine lv_ishl hx hb dX9_goCome_17 ?_
  refine lv_ior hx hb dX9_goCome_18 ?_
  obtain ⟨g11, h⟩ := s_guard h
  refine s_iast (ws' := (wd_X9_goCome cI cB cZ a_p1 n_p1 (upd p1 (Int32.toNatClampNeg (19 : Int32)) ((p1 (Int32.toNatClampNeg (19 : Int32))) ||| ((1 : Int32) <<< (p2 &&& 31)))))) hx hb hK hS 0 rfl rfl g11 rfl dX9_goCome_19 (fun H locs hS => ?_)
  refine lv_aload_n hx hb dX9_goCome_20 rfl (lv_at hl 1 rfl) ?_
  refine lv_bipush (v := (12 : Int32)) hx hb dX9_goCome_21 (by decide) ?_
  refine lv_iload_n hx hb dX9_goCome_23 rfl (lv_at hl 2 rfl) ?_
  refine lv_iadd hx hb dX9_goCome_24 ?_
  refine lv_aload_n hx hb dX9_goCome_25 rfl (lv_at hl 1 rfl) ?_
  refine lv_bipush (v := (12 : Int32)) hx hb dX9_goCome_26 (by decide) ?_
  refine lv_iload_n hx hb dX9_goCome_28 rfl (lv_at hl 2 rfl) ?_
  refine lv_iadd hx hb dX9_goCome_29 ?_
  obtain ⟨g12, h⟩ := s_guard h
  refine s_iald hx hb hK hS 0 rfl rfl g12 dX9_goCome_30 ?_
  refine lv_bipush (v := (99 : Int32)) hx hb dX9_goCome_31 (by decide) ?_
  obtain ⟨q13, hq13, h⟩ := s_bind h
  refine u_calliS (r := q13) (As := [.int ((upd p1 (Int32.toNatClampNeg (19 : Int32)) ((p1 (Int32.toNatClampNeg (19 : Int32))) ||| ((1 : Int32) <<< (p2 &&& 31)))) (Int32.toNatClampNeg ((12 : Int32) + p2))), .int (99 : Int32)]) (rest := [.int ((12 : Int32) + p2), .ref a_p1]) (wc := ([] : va_W)) hx hb hml hown hts hK hA hl hS (c_X9_more l D cI cB cZ ((upd p1 (Int32.toNatClampNeg (19 : Int32)) ((p1 (Int32.toNatClampNeg (19 : Int32))) ||| ((1 : Int32) <<< (p2 &&& 31)))) (Int32.toNatClampNeg ((12 : Int32) + p2))) (99 : Int32) _ _ hq13) (va_cwS 2 hts gX9_goCome_X9_more rfl rfl rfl (by decide +kernel) ⟨Nat.le_of_ble_eq_true rfl, Nat.le_of_ble_eq_true rfl⟩) [] rfl rfl rfl rfl (Nat.le_of_ble_eq_true rfl) dX9_goCome_33 (fun H locs hS => ?_)
  obtain ⟨g14, h⟩ := s_guard h
  refine s_iast (ws' := (wd_X9_goCome cI cB cZ a_p1 n_p1 (upd (upd p1 (Int32.toNatClampNeg (19 : Int32)) ((p1 (Int32.toNatClampNeg (19 : Int32))) ||| ((1 : Int32) <<< (p2 &&& 31)))) (Int32.toNatClampNeg ((12 : Int32) + p2)) q13))) hx hb hK hS 0 rfl rfl g14 rfl dX9_goCome_36 (fun H locs hS => ?_)
  refine lv_goto (tgt := 54) hx hb dX9_goCome_37 (by decide) ?_
  exact w_X9_goCome_b54 C0 hend  (upd (upd p1 (Int32.toNatClampNeg (19 : Int32)) ((p1 (Int32.toNatClampNeg (19 : Int32))) ||| ((1 : Int32) <<< (p2 &&& 31)))) (Int32.toNatClampNeg ((12 : Int32) + p2)) q13) q5 _ _ _ h hS (lv_sub hl [1, 0] rfl)

-- InnTurnedModel.save()V
def wd_X9_save (cI cB cZ : ClassId) (a_this : Nat) (a_all : Nat) (a_kept : Nat) (a_isKept : Nat) (a_refused : Nat) (a_hand : Nat) (a_outs : Nat) (a_order0 : Nat) (a_bestOrder : Nat) (a_tells : Nat) (a_bytes : Nat) (a_anew : Nat) (a_values : Nat)  (all : (Nat → Int32)) (above : Int64) (below_ : Int64) (bytesLong : Int32) (tokenAt : Int32) (tokenLong : Int32) (token : Int32) (value : Int32) : va_W := [(a_this, .inr (6, [.ref a_all, .ref a_kept, .ref a_isKept, .ref a_refused, .long above, .long below_, .ref a_hand, .ref a_outs, .ref a_order0, .ref a_bestOrder, .ref a_tells, .ref a_bytes, .int bytesLong, .int tokenAt, .int tokenLong, .int token, .int value, .ref a_anew, .ref a_values])), (a_all, .inl (cI, 250, .inl all))]
abbrev rm_X9_save : Room := { frames := 0, cells := 0, slots := 0, locals := 0 }
set_option maxRecDepth 20000 in
theorem inX9_X9_save : ∀ w ∈ u_ws RX9 TX9 19, w ∈ wsX9_save := by decide +kernel
def f_X9_save_b53   : Nat → (Nat → Int32) → Int32 → Option ((Nat → Int32))
  | 0, _, _ => none
  | fu + 1, all, l1 => (if (18 : Int32) ≤ l1 then some ((upd all (Int32.toNatClampNeg (4 : Int32)) ((all (Int32.toNatClampNeg (4 : Int32))) + (1 : Int32)))) else (if ¬ (((5 : Int32) + l1) < 0 ∨ 250 ≤ (Int32.toNatClampNeg ((5 : Int32) + l1))) then (if ¬ ((((106 : Int32) + ((18 : Int32) * (all (Int32.toNatClampNeg (4 : Int32))))) + l1) < 0 ∨ 250 ≤ (Int32.toNatClampNeg (((106 : Int32) + ((18 : Int32) * (all (Int32.toNatClampNeg (4 : Int32))))) + l1))) then (f_X9_save_b53  fu) (upd all (Int32.toNatClampNeg (((106 : Int32) + ((18 : Int32) * (all (Int32.toNatClampNeg (4 : Int32))))) + l1)) (all (Int32.toNatClampNeg ((5 : Int32) + l1)))) (l1 + (1 : Int32)) else none) else none))
set_option maxHeartbeats 4000000 in
set_option maxRecDepth 100000 in
theorem w_X9_save_b53 {p : Program} {l : Launch} {e : Env} {s : State} {m : MethodId} {args : Array Value} {below : List Frame} {meth : Method} {c : Code} {A : Nat → Prop} {Q : State → Prop} {D : va_G} {cI cB cZ : ClassId} {a_this a_all a_kept a_isKept a_refused a_hand a_outs a_order0 a_bestOrder a_tells a_bytes a_anew a_values : Nat} {above : Int64} {below_ : Int64} {bytesLong : Int32} {tokenAt : Int32} {tokenLong : Int32} {token : Int32} {value : Int32} (C0 : Cx p s m args c cX9_save 2 RX9 wsX9_save D (s_tys cI cB cZ) A) {rv : (Nat → Int32)} (hend : ∀ (pc : Nat) (H : Heap) (locs : List Loc) (ls : Array Slot), decode cX9_save pc = .ok (.return_, 1) → sS D vwCl A s.heap (wd_X9_save cI cB cZ a_this a_all a_kept a_isKept a_refused a_hand a_outs a_order0 a_bestOrder a_tells a_bytes a_anew a_values rv above below_ bytesLong tokenAt tokenLong token value) H locs → W p l e rm_X9_save s m args below meth c H locs 0 0 Q (F0 m pc ls [])) : ∀ (fu : Nat) (all : (Nat → Int32)) (l1 : Int32) (H : Heap) (locs : List Loc) (ls : Array Slot), f_X9_save_b53  fu all l1 = some rv → sS D vwCl A s.heap (wd_X9_save cI cB cZ a_this a_all a_kept a_isKept a_refused a_hand a_outs a_order0 a_bestOrder a_tells a_bytes a_anew a_values all above below_ bytesLong tokenAt tokenLong token value) H locs → lv_has ls 2 [(0, .ref a_this), (1, .int l1)] → W p l e rm_X9_save s m args below meth c H locs 0 0 Q (F0 m 53 ls []) := by
  obtain ⟨hx, hb, hml, hown, hts, hK, hA⟩ := id C0
  have inX9 : ∀ w ∈ u_ws RX9 TX9 19, w ∈ wsX9_save := inX9_X9_save
  intro fu
  induction fu with
  | zero => intro all l1 H locs ls h; cases h
  | succ fu ih =>
    intro all l1 H locs ls h hS hl
    rw [f_X9_save_b53] at h
    refine lv_iload_n hx hb dX9_save_53 rfl (lv_at hl 1 rfl) ?_
    refine lv_bipush (v := (18 : Int32)) hx hb dX9_save_54 (by decide) ?_
    refine lv_icmp_ge (tgt := 92) hx hb dX9_save_56 (by decide) (fun c1 => ?_) (fun c1 => ?_)
    · replace h := s_yes c1 h
      refine lv_aload_n hx hb dX9_save_92 rfl (lv_at hl 0 rfl) ?_
      refine s_get (C := RX9) (T := TX9) (N := 19) hx hb hts inX9 hown hK hS 0 rfl rfl 0 (by decide) (hts (.fieldLink RX9 7 "InnTurnedModel" "all" "[I") (List.mem_of_getElem? (i := 1) rfl)) rfl rfl dX9_save_93 ?_
      refine lv_iconst (v := (4 : Int32)) hx hb dX9_save_96 (by decide) ?_
      refine lv_dup2_11 hx hb dX9_save_97 rfl rfl ?_
      refine s_iald hx hb hK hS 1 rfl rfl (by decide) dX9_save_98 ?_
      refine lv_iconst (v := (1 : Int32)) hx hb dX9_save_99 (by decide) ?_
      refine lv_iadd hx hb dX9_save_100 ?_
      refine s_iast (ws' := (wd_X9_save cI cB cZ a_this a_all a_kept a_isKept a_refused a_hand a_outs a_order0 a_bestOrder a_tells a_bytes a_anew a_values (upd all (Int32.toNatClampNeg (4 : Int32)) ((all (Int32.toNatClampNeg (4 : Int32))) + (1 : Int32))) above below_ bytesLong tokenAt tokenLong token value)) hx hb hK hS 1 rfl rfl (by decide) rfl dX9_save_101 (fun H locs hS => ?_)
      obtain rfl := Option.some.inj h
      exact hend _ _ _ _ dX9_save_102 hS
    replace h := s_no c1 h
    refine lv_aload_n hx hb dX9_save_59 rfl (lv_at hl 0 rfl) ?_
    refine s_get (C := RX9) (T := TX9) (N := 19) hx hb hts inX9 hown hK hS 0 rfl rfl 0 (by decide) (hts (.fieldLink RX9 7 "InnTurnedModel" "all" "[I") (List.mem_of_getElem? (i := 1) rfl)) rfl rfl dX9_save_60 ?_
    refine lv_bipush (v := (106 : Int32)) hx hb dX9_save_63 (by decide) ?_
    refine lv_bipush (v := (18 : Int32)) hx hb dX9_save_65 (by decide) ?_
    refine lv_aload_n hx hb dX9_save_67 rfl (lv_at hl 0 rfl) ?_
    refine s_get (C := RX9) (T := TX9) (N := 19) hx hb hts inX9 hown hK hS 0 rfl rfl 0 (by decide) (hts (.fieldLink RX9 7 "InnTurnedModel" "all" "[I") (List.mem_of_getElem? (i := 1) rfl)) rfl rfl dX9_save_68 ?_
    refine lv_iconst (v := (4 : Int32)) hx hb dX9_save_71 (by decide) ?_
    refine s_iald hx hb hK hS 1 rfl rfl (by decide) dX9_save_72 ?_
    refine lv_imul hx hb dX9_save_73 ?_
    refine lv_iadd hx hb dX9_save_74 ?_
    refine lv_iload_n hx hb dX9_save_75 rfl (lv_at hl 1 rfl) ?_
    refine lv_iadd hx hb dX9_save_76 ?_
    refine lv_aload_n hx hb dX9_save_77 rfl (lv_at hl 0 rfl) ?_
    refine s_get (C := RX9) (T := TX9) (N := 19) hx hb hts inX9 hown hK hS 0 rfl rfl 0 (by decide) (hts (.fieldLink RX9 7 "InnTurnedModel" "all" "[I") (List.mem_of_getElem? (i := 1) rfl)) rfl rfl dX9_save_78 ?_
    refine lv_iconst (v := (5 : Int32)) hx hb dX9_save_81 (by decide) ?_
    refine lv_iload_n hx hb dX9_save_82 rfl (lv_at hl 1 rfl) ?_
    refine lv_iadd hx hb dX9_save_83 ?_
    obtain ⟨g2, h⟩ := s_guard h
    refine s_iald hx hb hK hS 1 rfl rfl g2 dX9_save_84 ?_
    obtain ⟨g3, h⟩ := s_guard h
    refine s_iast (ws' := (wd_X9_save cI cB cZ a_this a_all a_kept a_isKept a_refused a_hand a_outs a_order0 a_bestOrder a_tells a_bytes a_anew a_values (upd all (Int32.toNatClampNeg (((106 : Int32) + ((18 : Int32) * (all (Int32.toNatClampNeg (4 : Int32))))) + l1)) (all (Int32.toNatClampNeg ((5 : Int32) + l1)))) above below_ bytesLong tokenAt tokenLong token value)) hx hb hK hS 1 rfl rfl g3 rfl dX9_save_85 (fun H locs hS => ?_)
    refine lv_iinc (v := (l1 + (1 : Int32))) (lv' := [(1, .int (l1 + (1 : Int32))), (0, .ref a_this)]) hx hb dX9_save_86 hl (k := 1) rfl rfl (by decide) rfl (fun ls hl => ?_)
    refine lv_goto (tgt := 53) hx hb dX9_save_89 (by decide) ?_
    exact ih (upd all (Int32.toNatClampNeg (((106 : Int32) + ((18 : Int32) * (all (Int32.toNatClampNeg (4 : Int32))))) + l1)) (all (Int32.toNatClampNeg ((5 : Int32) + l1)))) (l1 + (1 : Int32)) _ _ _ h hS (lv_sub hl [1, 0] rfl)
def f_X9_save_b51   (all : (Nat → Int32)) : Option ((Nat → Int32)) := f_X9_save_b53   s_fuel all (0 : Int32)
set_option maxHeartbeats 4000000 in
set_option maxRecDepth 100000 in
theorem w_X9_save_b51 {p : Program} {l : Launch} {e : Env} {s : State} {m : MethodId} {args : Array Value} {below : List Frame} {meth : Method} {c : Code} {A : Nat → Prop} {Q : State → Prop} {D : va_G} {cI cB cZ : ClassId} {a_this a_all a_kept a_isKept a_refused a_hand a_outs a_order0 a_bestOrder a_tells a_bytes a_anew a_values : Nat} {above : Int64} {below_ : Int64} {bytesLong : Int32} {tokenAt : Int32} {tokenLong : Int32} {token : Int32} {value : Int32} (C0 : Cx p s m args c cX9_save 2 RX9 wsX9_save D (s_tys cI cB cZ) A) {rv : (Nat → Int32)} (hend : ∀ (pc : Nat) (H : Heap) (locs : List Loc) (ls : Array Slot), decode cX9_save pc = .ok (.return_, 1) → sS D vwCl A s.heap (wd_X9_save cI cB cZ a_this a_all a_kept a_isKept a_refused a_hand a_outs a_order0 a_bestOrder a_tells a_bytes a_anew a_values rv above below_ bytesLong tokenAt tokenLong token value) H locs → W p l e rm_X9_save s m args below meth c H locs 0 0 Q (F0 m pc ls [])) : ∀ (all : (Nat → Int32)) (H : Heap) (locs : List Loc) (ls : Array Slot), f_X9_save_b51  all = some rv → sS D vwCl A s.heap (wd_X9_save cI cB cZ a_this a_all a_kept a_isKept a_refused a_hand a_outs a_order0 a_bestOrder a_tells a_bytes a_anew a_values all above below_ bytesLong tokenAt tokenLong token value) H locs → lv_has ls 2 [(0, .ref a_this)] → W p l e rm_X9_save s m args below meth c H locs 0 0 Q (F0 m 51 ls []) := by
  obtain ⟨hx, hb, hml, hown, hts, hK, hA⟩ := id C0
  have inX9 : ∀ w ∈ u_ws RX9 TX9 19, w ∈ wsX9_save := inX9_X9_save
  intro all H locs ls h hS hl
  unfold f_X9_save_b51 at h
  refine lv_iconst (v := (0 : Int32)) hx hb dX9_save_51 (by decide) ?_
  refine lv_istore_n (lv' := [(1, .int (0 : Int32)), (0, .ref a_this)]) hx hb dX9_save_52 rfl hl (by decide) rfl (fun ls hl => ?_)
  exact w_X9_save_b53 C0 hend  s_fuel all (0 : Int32) _ _ _ h hS (lv_sub hl [1, 0] rfl)
def f_X9_save_b13   : Nat → (Nat → Int32) → Int32 → Option ((Nat → Int32))
  | 0, _, _ => none
  | fu + 1, all, l1 => (if (126 : Int32) ≤ l1 then f_X9_save_b51   (upd all (Int32.toNatClampNeg (4 : Int32)) (7 : Int32)) else (if ¬ (((124 : Int32) + l1) < 0 ∨ 250 ≤ (Int32.toNatClampNeg ((124 : Int32) + l1))) then (if ¬ (((106 : Int32) + l1) < 0 ∨ 250 ≤ (Int32.toNatClampNeg ((106 : Int32) + l1))) then (f_X9_save_b13  fu) (upd all (Int32.toNatClampNeg ((106 : Int32) + l1)) (all (Int32.toNatClampNeg ((124 : Int32) + l1)))) (l1 + (1 : Int32)) else none) else none))
set_option maxHeartbeats 4000000 in
set_option maxRecDepth 100000 in
theorem w_X9_save_b13 {p : Program} {l : Launch} {e : Env} {s : State} {m : MethodId} {args : Array Value} {below : List Frame} {meth : Method} {c : Code} {A : Nat → Prop} {Q : State → Prop} {D : va_G} {cI cB cZ : ClassId} {a_this a_all a_kept a_isKept a_refused a_hand a_outs a_order0 a_bestOrder a_tells a_bytes a_anew a_values : Nat} {above : Int64} {below_ : Int64} {bytesLong : Int32} {tokenAt : Int32} {tokenLong : Int32} {token : Int32} {value : Int32} (C0 : Cx p s m args c cX9_save 2 RX9 wsX9_save D (s_tys cI cB cZ) A) {rv : (Nat → Int32)} (hend : ∀ (pc : Nat) (H : Heap) (locs : List Loc) (ls : Array Slot), decode cX9_save pc = .ok (.return_, 1) → sS D vwCl A s.heap (wd_X9_save cI cB cZ a_this a_all a_kept a_isKept a_refused a_hand a_outs a_order0 a_bestOrder a_tells a_bytes a_anew a_values rv above below_ bytesLong tokenAt tokenLong token value) H locs → W p l e rm_X9_save s m args below meth c H locs 0 0 Q (F0 m pc ls [])) : ∀ (fu : Nat) (all : (Nat → Int32)) (l1 : Int32) (H : Heap) (locs : List Loc) (ls : Array Slot), f_X9_save_b13  fu all l1 = some rv → sS D vwCl A s.heap (wd_X9_save cI cB cZ a_this a_all a_kept a_isKept a_refused a_hand a_outs a_order0 a_bestOrder a_tells a_bytes a_anew a_values all above below_ bytesLong tokenAt tokenLong token value) H locs → lv_has ls 2 [(0, .ref a_this), (1, .int l1)] → W p l e rm_X9_save s m args below meth c H locs 0 0 Q (F0 m 13 ls []) := by
  obtain ⟨hx, hb, hml, hown, hts, hK, hA⟩ := id C0
  have inX9 : ∀ w ∈ u_ws RX9 TX9 19, w ∈ wsX9_save := inX9_X9_save
  intro fu
  induction fu with
  | zero => intro all l1 H locs ls h; cases h
  | succ fu ih =>
    intro all l1 H locs ls h hS hl
    rw [f_X9_save_b13] at h
    refine lv_iload_n hx hb dX9_save_13 rfl (lv_at hl 1 rfl) ?_
    refine lv_bipush (v := (126 : Int32)) hx hb dX9_save_14 (by decide) ?_
    refine lv_icmp_ge (tgt := 43) hx hb dX9_save_16 (by decide) (fun c4 => ?_) (fun c4 => ?_)
    · replace h := s_yes c4 h
      refine lv_aload_n hx hb dX9_save_43 rfl (lv_at hl 0 rfl) ?_
      refine s_get (C := RX9) (T := TX9) (N := 19) hx hb hts inX9 hown hK hS 0 rfl rfl 0 (by decide) (hts (.fieldLink RX9 7 "InnTurnedModel" "all" "[I") (List.mem_of_getElem? (i := 1) rfl)) rfl rfl dX9_save_44 ?_
      refine lv_iconst (v := (4 : Int32)) hx hb dX9_save_47 (by decide) ?_
      refine lv_bipush (v := (7 : Int32)) hx hb dX9_save_48 (by decide) ?_
      refine s_iast (ws' := (wd_X9_save cI cB cZ a_this a_all a_kept a_isKept a_refused a_hand a_outs a_order0 a_bestOrder a_tells a_bytes a_anew a_values (upd all (Int32.toNatClampNeg (4 : Int32)) (7 : Int32)) above below_ bytesLong tokenAt tokenLong token value)) hx hb hK hS 1 rfl rfl (by decide) rfl dX9_save_50 (fun H locs hS => ?_)
      exact w_X9_save_b51 C0 hend  (upd all (Int32.toNatClampNeg (4 : Int32)) (7 : Int32)) _ _ _ h hS (lv_sub hl [0] rfl)
    replace h := s_no c4 h
    refine lv_aload_n hx hb dX9_save_19 rfl (lv_at hl 0 rfl) ?_
    refine s_get (C := RX9) (T := TX9) (N := 19) hx hb hts inX9 hown hK hS 0 rfl rfl 0 (by decide) (hts (.fieldLink RX9 7 "InnTurnedModel" "all" "[I") (List.mem_of_getElem? (i := 1) rfl)) rfl rfl dX9_save_20 ?_
    refine lv_bipush (v := (106 : Int32)) hx hb dX9_save_23 (by decide) ?_
    refine lv_iload_n hx hb dX9_save_25 rfl (lv_at hl 1 rfl) ?_
    refine lv_iadd hx hb dX9_save_26 ?_
    refine lv_aload_n hx hb dX9_save_27 rfl (lv_at hl 0 rfl) ?_
    refine s_get (C := RX9) (T := TX9) (N := 19) hx hb hts inX9 hown hK hS 0 rfl rfl 0 (by decide) (hts (.fieldLink RX9 7 "InnTurnedModel" "all" "[I") (List.mem_of_getElem? (i := 1) rfl)) rfl rfl dX9_save_28 ?_
    refine lv_bipush (v := (124 : Int32)) hx hb dX9_save_31 (by decide) ?_
    refine lv_iload_n hx hb dX9_save_33 rfl (lv_at hl 1 rfl) ?_
    refine lv_iadd hx hb dX9_save_34 ?_
    obtain ⟨g5, h⟩ := s_guard h
    refine s_iald hx hb hK hS 1 rfl rfl g5 dX9_save_35 ?_
    obtain ⟨g6, h⟩ := s_guard h
    refine s_iast (ws' := (wd_X9_save cI cB cZ a_this a_all a_kept a_isKept a_refused a_hand a_outs a_order0 a_bestOrder a_tells a_bytes a_anew a_values (upd all (Int32.toNatClampNeg ((106 : Int32) + l1)) (all (Int32.toNatClampNeg ((124 : Int32) + l1)))) above below_ bytesLong tokenAt tokenLong token value)) hx hb hK hS 1 rfl rfl g6 rfl dX9_save_36 (fun H locs hS => ?_)
    refine lv_iinc (v := (l1 + (1 : Int32))) (lv' := [(1, .int (l1 + (1 : Int32))), (0, .ref a_this)]) hx hb dX9_save_37 hl (k := 1) rfl rfl (by decide) rfl (fun ls hl => ?_)
    refine lv_goto (tgt := 13) hx hb dX9_save_40 (by decide) ?_
    exact ih (upd all (Int32.toNatClampNeg ((106 : Int32) + l1)) (all (Int32.toNatClampNeg ((124 : Int32) + l1)))) (l1 + (1 : Int32)) _ _ _ h hS (lv_sub hl [1, 0] rfl)
def f_X9_save   (all : (Nat → Int32)) : Option ((Nat → Int32)) := (if (all (Int32.toNatClampNeg (4 : Int32))) = (8 : Int32) then f_X9_save_b13   s_fuel all (0 : Int32) else f_X9_save_b51   all)
set_option maxHeartbeats 4000000 in
set_option maxRecDepth 100000 in
theorem c_X9_save (l : Launch) (D : va_G) (cI cB cZ : ClassId) (a_this : Nat) (a_all : Nat) (a_kept : Nat) (a_isKept : Nat) (a_refused : Nat) (a_hand : Nat) (a_outs : Nat) (a_order0 : Nat) (a_bestOrder : Nat) (a_tells : Nat) (a_bytes : Nat) (a_anew : Nat) (a_values : Nat) (all : (Nat → Int32)) (above : Int64) (below_ : Int64) (bytesLong : Int32) (tokenAt : Int32) (tokenLong : Int32) (token : Int32) (value : Int32) (rv : (Nat → Int32)) (sz : Nat) (hf : f_X9_save all = some rv) : Met l yX9_save wsX9_save rm_X9_save (sPc D vwCl (s_tys cI cB cZ) [.ref a_this] (wd_X9_save cI cB cZ a_this a_all a_kept a_isKept a_refused a_hand a_outs a_order0 a_bestOrder a_tells a_bytes a_anew a_values all above below_ bytesLong tokenAt tokenLong token value) sz) (sQv D vwCl (wd_X9_save cI cB cZ a_this a_all a_kept a_isKept a_refused a_hand a_outs a_order0 a_bestOrder a_tells a_bytes a_anew a_values all above below_ bytesLong tokenAt tokenLong token value) (wd_X9_save cI cB cZ a_this a_all a_kept a_isKept a_refused a_hand a_outs a_order0 a_bestOrder a_tells a_bytes a_anew a_values rv above below_ bytesLong tokenAt tokenLong token value) sz) 0 0 (va_A (wd_X9_save cI cB cZ a_this a_all a_kept a_isKept a_refused a_hand a_outs a_order0 a_bestOrder a_tells a_bytes a_anew a_values all above below_ bytesLong tokenAt tokenLong token value) sz) := by
  refine s_enter_v (cc := cX9_save) (nL := 2) (by decide) rfl (Nat.le_of_ble_eq_true rfl) ?_
  intro p e s m args below meth c A Q C0 hend ls hl hS
  have h := hf
  clear hf
  replace hl : lv_has ls 2 [(0, .ref a_this)] := hl
  unfold f_X9_save at h
  obtain ⟨hx, hb, hml, hown, hts, hK, hA⟩ := id C0
  have inX9 : ∀ w ∈ u_ws RX9 TX9 19, w ∈ wsX9_save := inX9_X9_save
  refine lv_aload_n hx hb dX9_save_0 rfl (lv_at hl 0 rfl) ?_
  refine s_get (C := RX9) (T := TX9) (N := 19) hx hb hts inX9 hown hK hS 0 rfl rfl 0 (by decide) (hts (.fieldLink RX9 7 "InnTurnedModel" "all" "[I") (List.mem_of_getElem? (i := 1) rfl)) rfl rfl dX9_save_1 ?_
  refine lv_iconst (v := (4 : Int32)) hx hb dX9_save_4 (by decide) ?_
  refine s_iald hx hb hK hS 1 rfl rfl (by decide) dX9_save_5 ?_
  refine lv_bipush (v := (8 : Int32)) hx hb dX9_save_6 (by decide) ?_
  refine lv_icmp_ne (tgt := 51) hx hb dX9_save_8 (by decide) (fun c7 => ?_) (fun c7 => ?_)
  · replace h := s_no c7 h
    exact w_X9_save_b51 C0 hend  all _ _ _ h hS (lv_sub hl [0] rfl)
  replace h := s_yes c7 h
  refine lv_iconst (v := (0 : Int32)) hx hb dX9_save_11 (by decide) ?_
  refine lv_istore_n (lv' := [(1, .int (0 : Int32)), (0, .ref a_this)]) hx hb dX9_save_12 rfl hl (by decide) rfl (fun ls hl => ?_)
  exact w_X9_save_b13 C0 hend  s_fuel all (0 : Int32) _ _ _ h hS (lv_sub hl [1, 0] rfl)

-- InnTurnedModel.comes(I)I
def wd_X9_comes (cI cB cZ : ClassId) (a_this : Nat) (a_all : Nat) (a_kept : Nat) (a_isKept : Nat) (a_refused : Nat) (a_hand : Nat) (a_outs : Nat) (a_order0 : Nat) (a_bestOrder : Nat) (a_tells : Nat) (a_bytes : Nat) (a_anew : Nat) (a_values : Nat)  (all : (Nat → Int32)) (refused : (Nat → Int32)) (above : Int64) (below_ : Int64) (bytesLong : Int32) (tokenAt : Int32) (tokenLong : Int32) (token : Int32) (value : Int32) : va_W := [(a_this, .inr (6, [.ref a_all, .ref a_kept, .ref a_isKept, .ref a_refused, .long above, .long below_, .ref a_hand, .ref a_outs, .ref a_order0, .ref a_bestOrder, .ref a_tells, .ref a_bytes, .int bytesLong, .int tokenAt, .int tokenLong, .int token, .int value, .ref a_anew, .ref a_values])), (a_all, .inl (cI, 250, .inl all)), (a_refused, .inl (cI, 3, .inl refused))]
abbrev rm_X9_comes : Room := { frames := 4, cells := 0, slots := 0, locals := 89 }
set_option maxRecDepth 20000 in
theorem inX9_X9_comes : ∀ w ∈ u_ws RX9 TX9 19, w ∈ wsX9_comes := by decide +kernel
def f_X9_comes   (all : (Nat → Int32)) (refused : (Nat → Int32)) (p1 : Int32) : Option (Int32 × (Nat → Int32) × (Nat → Int32)) := ((f_X9_isOne all p1).bind fun q1 => (if q1 = 0 then ((f_X9_bad refused (-2 : Int32)).bind fun q8 => some (q8.1, all, q8.2)) else ((f_X9_has (all (Int32.toNatClampNeg (19 : Int32))) p1).bind fun q3 => (if q3 = 0 then ((f_X9_save all).bind fun q5 => ((f_X9_goCome 250 q5 p1).bind fun q6 => some (q6.1, q6.2, refused))) else ((f_X9_no refused).bind fun q7 => some (q7.1, all, q7.2))))))
set_option maxHeartbeats 4000000 in
set_option maxRecDepth 100000 in
theorem c_X9_comes (l : Launch) (D : va_G) (cI cB cZ : ClassId) (a_this : Nat) (a_all : Nat) (a_kept : Nat) (a_isKept : Nat) (a_refused : Nat) (a_hand : Nat) (a_outs : Nat) (a_order0 : Nat) (a_bestOrder : Nat) (a_tells : Nat) (a_bytes : Nat) (a_anew : Nat) (a_values : Nat) (all : (Nat → Int32)) (refused : (Nat → Int32)) (above : Int64) (below_ : Int64) (bytesLong : Int32) (tokenAt : Int32) (tokenLong : Int32) (token : Int32) (value : Int32) (p1 : Int32) (rv : Int32 × (Nat → Int32) × (Nat → Int32)) (sz : Nat) (hf : f_X9_comes all refused p1 = some rv) : Met l yX9_comes wsX9_comes rm_X9_comes (sPc D vwCl (s_tys cI cB cZ) [.ref a_this, .int p1] (wd_X9_comes cI cB cZ a_this a_all a_kept a_isKept a_refused a_hand a_outs a_order0 a_bestOrder a_tells a_bytes a_anew a_values all refused above below_ bytesLong tokenAt tokenLong token value) sz) (sQi D vwCl (wd_X9_comes cI cB cZ a_this a_all a_kept a_isKept a_refused a_hand a_outs a_order0 a_bestOrder a_tells a_bytes a_anew a_values all refused above below_ bytesLong tokenAt tokenLong token value) (wd_X9_comes cI cB cZ a_this a_all a_kept a_isKept a_refused a_hand a_outs a_order0 a_bestOrder a_tells a_bytes a_anew a_values rv.2.1 rv.2.2 above below_ bytesLong tokenAt tokenLong token value) sz rv.1) 0 0 (va_A (wd_X9_comes cI cB cZ a_this a_all a_kept a_isKept a_refused a_hand a_outs a_order0 a_bestOrder a_tells a_bytes a_anew a_values all refused above below_ bytesLong tokenAt tokenLong token value) sz) := by
  refine s_enter_n (cc := cX9_comes) (nL := 2) (r := rv.1) (by decide) rfl (Nat.le_of_ble_eq_true rfl) ?_
  intro p e s m args below meth c A Q C0 hend ls hl hS
  have h := hf
  clear hf
  replace hl : lv_has ls 2 [(0, .ref a_this), (1, .int p1)] := hl
  unfold f_X9_comes at h
  obtain ⟨hx, hb, hml, hown, hts, hK, hA⟩ := id C0
  have inX9 : ∀ w ∈ u_ws RX9 TX9 19, w ∈ wsX9_comes := inX9_X9_comes
  refine lv_aload_n hx hb dX9_comes_0 rfl (lv_at hl 0 rfl) ?_
  refine lv_iload_n hx hb dX9_comes_1 rfl (lv_at hl 1 rfl) ?_
  obtain ⟨q1, hq1, h⟩ := s_bind h
  refine u_calliV (r := q1) (As := [.int p1]) (rest := []) (wc := (wd_X9_isOne cI cB cZ a_this a_all a_kept a_isKept a_refused a_hand a_outs a_order0 a_bestOrder a_tells a_bytes a_anew a_values all above below_ bytesLong tokenAt tokenLong token value)) hx hb hml hown hts hK hA hl hS (c_X9_isOne l D cI cB cZ a_this a_all a_kept a_isKept a_refused a_hand a_outs a_order0 a_bestOrder a_tells a_bytes a_anew a_values all above below_ bytesLong tokenAt tokenLong token value p1 _ _ hq1) (cwV 1 hts gX9_comes_X9_isOne rfl rfl rfl (by decide +kernel) ⟨Nat.le_of_ble_eq_true rfl, Nat.le_of_ble_eq_true rfl⟩) 0 rfl rfl [0, 1] rfl rfl rfl rfl (Nat.le_of_ble_eq_true rfl) dX9_comes_2 (fun H locs hS => ?_)
  refine lv_if_ne (tgt := 15) hx hb dX9_comes_5 (by decide) (fun c2 => ?_) (fun c2 => ?_)
  · replace h := s_no c2 h
    refine lv_aload_n hx hb dX9_comes_15 rfl (lv_at hl 0 rfl) ?_
    refine s_get (C := RX9) (T := TX9) (N := 19) hx hb hts inX9 hown hK hS 0 rfl rfl 0 (by decide) (hts (.fieldLink RX9 7 "InnTurnedModel" "all" "[I") (List.mem_of_getElem? (i := 1) rfl)) rfl rfl dX9_comes_16 ?_
    refine lv_bipush (v := (19 : Int32)) hx hb dX9_comes_19 (by decide) ?_
    refine s_iald hx hb hK hS 1 rfl rfl (by decide) dX9_comes_21 ?_
    refine lv_iload_n hx hb dX9_comes_22 rfl (lv_at hl 1 rfl) ?_
    obtain ⟨q3, hq3, h⟩ := s_bind h
    refine u_calliS (r := q3) (As := [.int (all (Int32.toNatClampNeg (19 : Int32))), .int p1]) (rest := []) (wc := ([] : va_W)) hx hb hml hown hts hK hA hl hS (c_X9_has l D cI cB cZ (all (Int32.toNatClampNeg (19 : Int32))) p1 _ _ hq3) (va_cwS 2 hts gX9_comes_X9_has rfl rfl rfl (by decide +kernel) ⟨Nat.le_of_ble_eq_true rfl, Nat.le_of_ble_eq_true rfl⟩) [] rfl rfl rfl rfl (Nat.le_of_ble_eq_true rfl) dX9_comes_23 (fun H locs hS => ?_)
    refine lv_if_eq (tgt := 34) hx hb dX9_comes_26 (by decide) (fun c4 => ?_) (fun c4 => ?_)
    · replace h := s_yes c4 h
      refine lv_aload_n hx hb dX9_comes_34 rfl (lv_at hl 0 rfl) ?_
      obtain ⟨q5, hq5, h⟩ := s_bind h
      refine r_callvV (As := []) (rest := []) (wc := (wd_X9_save cI cB cZ a_this a_all a_kept a_isKept a_refused a_hand a_outs a_order0 a_bestOrder a_tells a_bytes a_anew a_values all above below_ bytesLong tokenAt tokenLong token value)) (w1 := (wd_X9_save cI cB cZ a_this a_all a_kept a_isKept a_refused a_hand a_outs a_order0 a_bestOrder a_tells a_bytes a_anew a_values q5 above below_ bytesLong tokenAt tokenLong token value)) (ws' := (wd_X9_comes cI cB cZ a_this a_all a_kept a_isKept a_refused a_hand a_outs a_order0 a_bestOrder a_tells a_bytes a_anew a_values q5 refused above below_ bytesLong tokenAt tokenLong token value)) hx hb hml hown hts hK hA hl hS (c_X9_save l D cI cB cZ a_this a_all a_kept a_isKept a_refused a_hand a_outs a_order0 a_bestOrder a_tells a_bytes a_anew a_values all above below_ bytesLong tokenAt tokenLong token value _ _ hq5) (cwV 0 hts gX9_comes_X9_save rfl rfl rfl (by decide +kernel) ⟨Nat.le_of_ble_eq_true rfl, Nat.le_of_ble_eq_true rfl⟩) 0 rfl rfl [0, 1] rfl rfl rfl [.inr 0, .inr 1, .inl 2] rfl rfl rfl rfl (Nat.le_of_ble_eq_true rfl) dX9_comes_35 (fun H locs hS => ?_)
      refine lv_aload_n hx hb dX9_comes_38 rfl (lv_at hl 0 rfl) ?_
      refine s_get (C := RX9) (T := TX9) (N := 19) hx hb hts inX9 hown hK hS 0 rfl rfl 0 (by decide) (hts (.fieldLink RX9 7 "InnTurnedModel" "all" "[I") (List.mem_of_getElem? (i := 1) rfl)) rfl rfl dX9_comes_39 ?_
      refine lv_iload_n hx hb dX9_comes_42 rfl (lv_at hl 1 rfl) ?_
      obtain ⟨q6, hq6, h⟩ := s_bind h
      refine r_calliS (r := q6.1) (As := [.ref a_all, .int p1]) (rest := []) (wc := (wd_X9_goCome cI cB cZ a_all 250 q5)) (w1 := (wd_X9_goCome cI cB cZ a_all 250 q6.2)) (ws' := (wd_X9_comes cI cB cZ a_this a_all a_kept a_isKept a_refused a_hand a_outs a_order0 a_bestOrder a_tells a_bytes a_anew a_values q6.2 refused above below_ bytesLong tokenAt tokenLong token value)) hx hb hml hown hts hK hA hl hS (c_X9_goCome l D cI cB cZ a_all 250 q5 p1 _ _ hq6) (va_cwS 2 hts gX9_comes_X9_goCome rfl rfl rfl (by decide +kernel) ⟨Nat.le_of_ble_eq_true rfl, Nat.le_of_ble_eq_true rfl⟩) [1] rfl rfl rfl [.inl 0, .inr 0, .inl 2] rfl rfl rfl rfl (Nat.le_of_ble_eq_true rfl) dX9_comes_43 (fun H locs hS => ?_)
      obtain rfl := Option.some.inj h
      exact hend _ _ _ _ dX9_comes_46 hS
    replace h := s_no c4 h
    refine lv_aload_n hx hb dX9_comes_29 rfl (lv_at hl 0 rfl) ?_
    obtain ⟨q7, hq7, h⟩ := s_bind h
    refine r_calliV (r := q7.1) (As := []) (rest := []) (wc := (wd_X9_no cI cB cZ a_this a_all a_kept a_isKept a_refused a_hand a_outs a_order0 a_bestOrder a_tells a_bytes a_anew a_values refused above below_ bytesLong tokenAt tokenLong token value)) (w1 := (wd_X9_no cI cB cZ a_this a_all a_kept a_isKept a_refused a_hand a_outs a_order0 a_bestOrder a_tells a_bytes a_anew a_values q7.2 above below_ bytesLong tokenAt tokenLong token value)) (ws' := (wd_X9_comes cI cB cZ a_this a_all a_kept a_isKept a_refused a_hand a_outs a_order0 a_bestOrder a_tells a_bytes a_anew a_values all q7.2 above below_ bytesLong tokenAt tokenLong token value)) hx hb hml hown hts hK hA hl hS (c_X9_no l D cI cB cZ a_this a_all a_kept a_isKept a_refused a_hand a_outs a_order0 a_bestOrder a_tells a_bytes a_anew a_values refused above below_ bytesLong tokenAt tokenLong token value _ _ hq7) (cwV 0 hts gX9_comes_X9_no rfl rfl rfl (by decide +kernel) ⟨Nat.le_of_ble_eq_true rfl, Nat.le_of_ble_eq_true rfl⟩) 0 rfl rfl [0, 2] rfl rfl rfl [.inr 0, .inl 1, .inr 1] rfl rfl rfl rfl (Nat.le_of_ble_eq_true rfl) dX9_comes_30 (fun H locs hS => ?_)
    obtain rfl := Option.some.inj h
    exact hend _ _ _ _ dX9_comes_33 hS
  replace h := s_yes c2 h
  refine lv_aload_n hx hb dX9_comes_8 rfl (lv_at hl 0 rfl) ?_
  refine lv_bipush (v := (-2 : Int32)) hx hb dX9_comes_9 (by decide) ?_
  obtain ⟨q8, hq8, h⟩ := s_bind h
  refine r_calliV (r := q8.1) (As := [.int (-2 : Int32)]) (rest := []) (wc := (wd_X9_bad cI cB cZ a_this a_all a_kept a_isKept a_refused a_hand a_outs a_order0 a_bestOrder a_tells a_bytes a_anew a_values refused above below_ bytesLong tokenAt tokenLong token value)) (w1 := (wd_X9_bad cI cB cZ a_this a_all a_kept a_isKept a_refused a_hand a_outs a_order0 a_bestOrder a_tells a_bytes a_anew a_values q8.2 above below_ bytesLong tokenAt tokenLong token value)) (ws' := (wd_X9_comes cI cB cZ a_this a_all a_kept a_isKept a_refused a_hand a_outs a_order0 a_bestOrder a_tells a_bytes a_anew a_values all q8.2 above below_ bytesLong tokenAt tokenLong token value)) hx hb hml hown hts hK hA hl hS (c_X9_bad l D cI cB cZ a_this a_all a_kept a_isKept a_refused a_hand a_outs a_order0 a_bestOrder a_tells a_bytes a_anew a_values refused above below_ bytesLong tokenAt tokenLong token value (-2 : Int32) _ _ hq8) (cwV 1 hts gX9_comes_X9_bad rfl rfl rfl (by decide +kernel) ⟨Nat.le_of_ble_eq_true rfl, Nat.le_of_ble_eq_true rfl⟩) 0 rfl rfl [0, 2] rfl rfl rfl [.inr 0, .inl 1, .inr 1] rfl rfl rfl rfl (Nat.le_of_ble_eq_true rfl) dX9_comes_11 (fun H locs hS => ?_)
  obtain rfl := Option.some.inj h
  exact hend _ _ _ _ dX9_comes_14 hS

-- InnTurnedModel.goes(I)I
def wd_X9_goes (cI cB cZ : ClassId) (a_this : Nat) (a_all : Nat) (a_kept : Nat) (a_isKept : Nat) (a_refused : Nat) (a_hand : Nat) (a_outs : Nat) (a_order0 : Nat) (a_bestOrder : Nat) (a_tells : Nat) (a_bytes : Nat) (a_anew : Nat) (a_values : Nat)  (all : (Nat → Int32)) (refused : (Nat → Int32)) (above : Int64) (below_ : Int64) (bytesLong : Int32) (tokenAt : Int32) (tokenLong : Int32) (token : Int32) (value : Int32) : va_W := [(a_this, .inr (6, [.ref a_all, .ref a_kept, .ref a_isKept, .ref a_refused, .long above, .long below_, .ref a_hand, .ref a_outs, .ref a_order0, .ref a_bestOrder, .ref a_tells, .ref a_bytes, .int bytesLong, .int tokenAt, .int tokenLong, .int token, .int value, .ref a_anew, .ref a_values])), (a_all, .inl (cI, 250, .inl all)), (a_refused, .inl (cI, 3, .inl refused))]
abbrev rm_X9_goes : Room := { frames := 2, cells := 0, slots := 0, locals := 46 }
set_option maxRecDepth 20000 in
theorem inX9_X9_goes : ∀ w ∈ u_ws RX9 TX9 19, w ∈ wsX9_goes := by decide +kernel
def f_X9_goes   (all : (Nat → Int32)) (refused : (Nat → Int32)) (p1 : Int32) : Option (Int32 × (Nat → Int32) × (Nat → Int32)) := ((f_X9_isOne all p1).bind fun q1 => (if q1 = 0 then ((f_X9_bad refused (-2 : Int32)).bind fun q8 => some (q8.1, all, q8.2)) else ((f_X9_has (all (Int32.toNatClampNeg (19 : Int32))) p1).bind fun q3 => (if q3 = 0 then ((f_X9_no refused).bind fun q7 => some (q7.1, all, q7.2)) else ((f_X9_save all).bind fun q5 => ((f_X9_bits ((upd q5 (Int32.toNatClampNeg (19 : Int32)) ((q5 (Int32.toNatClampNeg (19 : Int32))) &&& (((1 : Int32) <<< (p1 &&& 31)) ^^^ (-1 : Int32)))) (Int32.toNatClampNeg (19 : Int32)))).bind fun q6 => some (q6, (upd q5 (Int32.toNatClampNeg (19 : Int32)) ((q5 (Int32.toNatClampNeg (19 : Int32))) &&& (((1 : Int32) <<< (p1 &&& 31)) ^^^ (-1 : Int32)))), refused)))))))
set_option maxHeartbeats 4000000 in
set_option maxRecDepth 100000 in
theorem c_X9_goes (l : Launch) (D : va_G) (cI cB cZ : ClassId) (a_this : Nat) (a_all : Nat) (a_kept : Nat) (a_isKept : Nat) (a_refused : Nat) (a_hand : Nat) (a_outs : Nat) (a_order0 : Nat) (a_bestOrder : Nat) (a_tells : Nat) (a_bytes : Nat) (a_anew : Nat) (a_values : Nat) (all : (Nat → Int32)) (refused : (Nat → Int32)) (above : Int64) (below_ : Int64) (bytesLong : Int32) (tokenAt : Int32) (tokenLong : Int32) (token : Int32) (value : Int32) (p1 : Int32) (rv : Int32 × (Nat → Int32) × (Nat → Int32)) (sz : Nat) (hf : f_X9_goes all refused p1 = some rv) : Met l yX9_goes wsX9_goes rm_X9_goes (sPc D vwCl (s_tys cI cB cZ) [.ref a_this, .int p1] (wd_X9_goes cI cB cZ a_this a_all a_kept a_isKept a_refused a_hand a_outs a_order0 a_bestOrder a_tells a_bytes a_anew a_values all refused above below_ bytesLong tokenAt tokenLong token value) sz) (sQi D vwCl (wd_X9_goes cI cB cZ a_this a_all a_kept a_isKept a_refused a_hand a_outs a_order0 a_bestOrder a_tells a_bytes a_anew a_values all refused above below_ bytesLong tokenAt tokenLong token value) (wd_X9_goes cI cB cZ a_this a_all a_kept a_isKept a_refused a_hand a_outs a_order0 a_bestOrder a_tells a_bytes a_anew a_values rv.2.1 rv.2.2 above below_ bytesLong tokenAt tokenLong token value) sz rv.1) 0 0 (va_A (wd_X9_goes cI cB cZ a_this a_all a_kept a_isKept a_refused a_hand a_outs a_order0 a_bestOrder a_tells a_bytes a_anew a_values all refused above below_ bytesLong tokenAt tokenLong token value) sz) := by
  refine s_enter_n (cc := cX9_goes) (nL := 2) (r := rv.1) (by decide) rfl (Nat.le_of_ble_eq_true rfl) ?_
  intro p e s m args below meth c A Q C0 hend ls hl hS
  have h := hf
  clear hf
  replace hl : lv_has ls 2 [(0, .ref a_this), (1, .int p1)] := hl
  unfold f_X9_goes at h
  obtain ⟨hx, hb, hml, hown, hts, hK, hA⟩ := id C0
  have inX9 : ∀ w ∈ u_ws RX9 TX9 19, w ∈ wsX9_goes := inX9_X9_goes
  refine lv_aload_n hx hb dX9_goes_0 rfl (lv_at hl 0 rfl) ?_
  refine lv_iload_n hx hb dX9_goes_1 rfl (lv_at hl 1 rfl) ?_
  obtain ⟨q1, hq1, h⟩ := s_bind h
  refine u_calliV (r := q1) (As := [.int p1]) (rest := []) (wc := (wd_X9_isOne cI cB cZ a_this a_all a_kept a_isKept a_refused a_hand a_outs a_order0 a_bestOrder a_tells a_bytes a_anew a_values all above below_ bytesLong tokenAt tokenLong token value)) hx hb hml hown hts hK hA hl hS (c_X9_isOne l D cI cB cZ a_this a_all a_kept a_isKept a_refused a_hand a_outs a_order0 a_bestOrder a_tells a_bytes a_anew a_values all above below_ bytesLong tokenAt tokenLong token value p1 _ _ hq1) (cwV 1 hts gX9_goes_X9_isOne rfl rfl rfl (by decide +kernel) ⟨Nat.le_of_ble_eq_true rfl, Nat.le_of_ble_eq_true rfl⟩) 0 rfl rfl [0, 1] rfl rfl rfl rfl (Nat.le_of_ble_eq_true rfl) dX9_goes_2 (fun H locs hS => ?_)
  refine lv_if_ne (tgt := 15) hx hb dX9_goes_5 (by decide) (fun c2 => ?_) (fun c2 => ?_)
  · replace h := s_no c2 h
    refine lv_aload_n hx hb dX9_goes_15 rfl (lv_at hl 0 rfl) ?_
    refine s_get (C := RX9) (T := TX9) (N := 19) hx hb hts inX9 hown hK hS 0 rfl rfl 0 (by decide) (hts (.fieldLink RX9 7 "InnTurnedModel" "all" "[I") (List.mem_of_getElem? (i := 1) rfl)) rfl rfl dX9_goes_16 ?_
    refine lv_bipush (v := (19 : Int32)) hx hb dX9_goes_19 (by decide) ?_
    refine s_iald hx hb hK hS 1 rfl rfl (by decide) dX9_goes_21 ?_
    refine lv_iload_n hx hb dX9_goes_22 rfl (lv_at hl 1 rfl) ?_
    obtain ⟨q3, hq3, h⟩ := s_bind h
    refine u_calliS (r := q3) (As := [.int (all (Int32.toNatClampNeg (19 : Int32))), .int p1]) (rest := []) (wc := ([] : va_W)) hx hb hml hown hts hK hA hl hS (c_X9_has l D cI cB cZ (all (Int32.toNatClampNeg (19 : Int32))) p1 _ _ hq3) (va_cwS 2 hts gX9_goes_X9_has rfl rfl rfl (by decide +kernel) ⟨Nat.le_of_ble_eq_true rfl, Nat.le_of_ble_eq_true rfl⟩) [] rfl rfl rfl rfl (Nat.le_of_ble_eq_true rfl) dX9_goes_23 (fun H locs hS => ?_)
    refine lv_if_ne (tgt := 34) hx hb dX9_goes_26 (by decide) (fun c4 => ?_) (fun c4 => ?_)
    · replace h := s_no c4 h
      refine lv_aload_n hx hb dX9_goes_34 rfl (lv_at hl 0 rfl) ?_
      obtain ⟨q5, hq5, h⟩ := s_bind h
      refine r_callvV (As := []) (rest := []) (wc := (wd_X9_save cI cB cZ a_this a_all a_kept a_isKept a_refused a_hand a_outs a_order0 a_bestOrder a_tells a_bytes a_anew a_values all above below_ bytesLong tokenAt tokenLong token value)) (w1 := (wd_X9_save cI cB cZ a_this a_all a_kept a_isKept a_refused a_hand a_outs a_order0 a_bestOrder a_tells a_bytes a_anew a_values q5 above below_ bytesLong tokenAt tokenLong token value)) (ws' := (wd_X9_goes cI cB cZ a_this a_all a_kept a_isKept a_refused a_hand a_outs a_order0 a_bestOrder a_tells a_bytes a_anew a_values q5 refused above below_ bytesLong tokenAt tokenLong token value)) hx hb hml hown hts hK hA hl hS (c_X9_save l D cI cB cZ a_this a_all a_kept a_isKept a_refused a_hand a_outs a_order0 a_bestOrder a_tells a_bytes a_anew a_values all above below_ bytesLong tokenAt tokenLong token value _ _ hq5) (cwV 0 hts gX9_goes_X9_save rfl rfl rfl (by decide +kernel) ⟨Nat.le_of_ble_eq_true rfl, Nat.le_of_ble_eq_true rfl⟩) 0 rfl rfl [0, 1] rfl rfl rfl [.inr 0, .inr 1, .inl 2] rfl rfl rfl rfl (Nat.le_of_ble_eq_true rfl) dX9_goes_35 (fun H locs hS => ?_)
      refine lv_aload_n hx hb dX9_goes_38 rfl (lv_at hl 0 rfl) ?_
      refine s_get (C := RX9) (T := TX9) (N := 19) hx hb hts inX9 hown hK hS 0 rfl rfl 0 (by decide) (hts (.fieldLink RX9 7 "InnTurnedModel" "all" "[I") (List.mem_of_getElem? (i := 1) rfl)) rfl rfl dX9_goes_39 ?_
      refine lv_bipush (v := (19 : Int32)) hx hb dX9_goes_42 (by decide) ?_
      refine lv_dup2_11 hx hb dX9_goes_44 rfl rfl ?_
      refine s_iald hx hb hK hS 1 rfl rfl (by decide) dX9_goes_45 ?_
      refine lv_iconst (v := (1 : Int32)) hx hb dX9_goes_46 (by decide) ?_
      refine lv_iload_n hx hb dX9_goes_47 rfl (lv_at hl 1 rfl) ?_
      refine lv_ishl hx hb dX9_goes_48 ?_
      refine lv_iconst (v := (-1 : Int32)) hx hb dX9_goes_49 (by decide) ?_
      refine lv_ixor hx hb dX9_goes_50 ?_
      refine lv_iand hx hb dX9_goes_51 ?_
      refine s_iast (ws' := (wd_X9_goes cI cB cZ a_this a_all a_kept a_isKept a_refused a_hand a_outs a_order0 a_bestOrder a_tells a_bytes a_anew a_values (upd q5 (Int32.toNatClampNeg (19 : Int32)) ((q5 (Int32.toNatClampNeg (19 : Int32))) &&& (((1 : Int32) <<< (p1 &&& 31)) ^^^ (-1 : Int32)))) refused above below_ bytesLong tokenAt tokenLong token value)) hx hb hK hS 1 rfl rfl (by decide) rfl dX9_goes_52 (fun H locs hS => ?_)
      refine lv_aload_n hx hb dX9_goes_53 rfl (lv_at hl 0 rfl) ?_
      refine s_get (C := RX9) (T := TX9) (N := 19) hx hb hts inX9 hown hK hS 0 rfl rfl 0 (by decide) (hts (.fieldLink RX9 7 "InnTurnedModel" "all" "[I") (List.mem_of_getElem? (i := 1) rfl)) rfl rfl dX9_goes_54 ?_
      refine lv_bipush (v := (19 : Int32)) hx hb dX9_goes_57 (by decide) ?_
      refine s_iald hx hb hK hS 1 rfl rfl (by decide) dX9_goes_59 ?_
      obtain ⟨q6, hq6, h⟩ := s_bind h
      refine u_calliS (r := q6) (As := [.int ((upd q5 (Int32.toNatClampNeg (19 : Int32)) ((q5 (Int32.toNatClampNeg (19 : Int32))) &&& (((1 : Int32) <<< (p1 &&& 31)) ^^^ (-1 : Int32)))) (Int32.toNatClampNeg (19 : Int32)))]) (rest := []) (wc := ([] : va_W)) hx hb hml hown hts hK hA hl hS (c_X9_bits l D cI cB cZ ((upd q5 (Int32.toNatClampNeg (19 : Int32)) ((q5 (Int32.toNatClampNeg (19 : Int32))) &&& (((1 : Int32) <<< (p1 &&& 31)) ^^^ (-1 : Int32)))) (Int32.toNatClampNeg (19 : Int32))) _ _ hq6) (va_cwS 1 hts gX9_goes_X9_bits rfl rfl rfl (by decide +kernel) ⟨Nat.le_of_ble_eq_true rfl, Nat.le_of_ble_eq_true rfl⟩) [] rfl rfl rfl rfl (Nat.le_of_ble_eq_true rfl) dX9_goes_60 (fun H locs hS => ?_)
      obtain rfl := Option.some.inj h
      exact hend _ _ _ _ dX9_goes_63 hS
    replace h := s_yes c4 h
    refine lv_aload_n hx hb dX9_goes_29 rfl (lv_at hl 0 rfl) ?_
    obtain ⟨q7, hq7, h⟩ := s_bind h
    refine r_calliV (r := q7.1) (As := []) (rest := []) (wc := (wd_X9_no cI cB cZ a_this a_all a_kept a_isKept a_refused a_hand a_outs a_order0 a_bestOrder a_tells a_bytes a_anew a_values refused above below_ bytesLong tokenAt tokenLong token value)) (w1 := (wd_X9_no cI cB cZ a_this a_all a_kept a_isKept a_refused a_hand a_outs a_order0 a_bestOrder a_tells a_bytes a_anew a_values q7.2 above below_ bytesLong tokenAt tokenLong token value)) (ws' := (wd_X9_goes cI cB cZ a_this a_all a_kept a_isKept a_refused a_hand a_outs a_order0 a_bestOrder a_tells a_bytes a_anew a_values all q7.2 above below_ bytesLong tokenAt tokenLong token value)) hx hb hml hown hts hK hA hl hS (c_X9_no l D cI cB cZ a_this a_all a_kept a_isKept a_refused a_hand a_outs a_order0 a_bestOrder a_tells a_bytes a_anew a_values refused above below_ bytesLong tokenAt tokenLong token value _ _ hq7) (cwV 0 hts gX9_goes_X9_no rfl rfl rfl (by decide +kernel) ⟨Nat.le_of_ble_eq_true rfl, Nat.le_of_ble_eq_true rfl⟩) 0 rfl rfl [0, 2] rfl rfl rfl [.inr 0, .inl 1, .inr 1] rfl rfl rfl rfl (Nat.le_of_ble_eq_true rfl) dX9_goes_30 (fun H locs hS => ?_)
    obtain rfl := Option.some.inj h
    exact hend _ _ _ _ dX9_goes_33 hS
  replace h := s_yes c2 h
  refine lv_aload_n hx hb dX9_goes_8 rfl (lv_at hl 0 rfl) ?_
  refine lv_bipush (v := (-2 : Int32)) hx hb dX9_goes_9 (by decide) ?_
  obtain ⟨q8, hq8, h⟩ := s_bind h
  refine r_calliV (r := q8.1) (As := [.int (-2 : Int32)]) (rest := []) (wc := (wd_X9_bad cI cB cZ a_this a_all a_kept a_isKept a_refused a_hand a_outs a_order0 a_bestOrder a_tells a_bytes a_anew a_values refused above below_ bytesLong tokenAt tokenLong token value)) (w1 := (wd_X9_bad cI cB cZ a_this a_all a_kept a_isKept a_refused a_hand a_outs a_order0 a_bestOrder a_tells a_bytes a_anew a_values q8.2 above below_ bytesLong tokenAt tokenLong token value)) (ws' := (wd_X9_goes cI cB cZ a_this a_all a_kept a_isKept a_refused a_hand a_outs a_order0 a_bestOrder a_tells a_bytes a_anew a_values all q8.2 above below_ bytesLong tokenAt tokenLong token value)) hx hb hml hown hts hK hA hl hS (c_X9_bad l D cI cB cZ a_this a_all a_kept a_isKept a_refused a_hand a_outs a_order0 a_bestOrder a_tells a_bytes a_anew a_values refused above below_ bytesLong tokenAt tokenLong token value (-2 : Int32) _ _ hq8) (cwV 1 hts gX9_goes_X9_bad rfl rfl rfl (by decide +kernel) ⟨Nat.le_of_ble_eq_true rfl, Nat.le_of_ble_eq_true rfl⟩) 0 rfl rfl [0, 2] rfl rfl rfl [.inr 0, .inl 1, .inr 1] rfl rfl rfl rfl (Nat.le_of_ble_eq_true rfl) dX9_goes_11 (fun H locs hS => ?_)
  obtain rfl := Option.some.inj h
  exact hend _ _ _ _ dX9_goes_14 hS

-- InnTurnedModel.letter(II)I
def wd_X9_letter (cI cB cZ : ClassId) (a_this : Nat) (a_all : Nat) (a_kept : Nat) (a_isKept : Nat) (a_refused : Nat) (a_hand : Nat) (a_outs : Nat) (a_order0 : Nat) (a_bestOrder : Nat) (a_tells : Nat) (a_bytes : Nat) (a_anew : Nat) (a_values : Nat)  (all : (Nat → Int32)) (refused : (Nat → Int32)) (above : Int64) (below_ : Int64) (bytesLong : Int32) (tokenAt : Int32) (tokenLong : Int32) (token : Int32) (value : Int32) : va_W := [(a_this, .inr (6, [.ref a_all, .ref a_kept, .ref a_isKept, .ref a_refused, .long above, .long below_, .ref a_hand, .ref a_outs, .ref a_order0, .ref a_bestOrder, .ref a_tells, .ref a_bytes, .int bytesLong, .int tokenAt, .int tokenLong, .int token, .int value, .ref a_anew, .ref a_values])), (a_all, .inl (cI, 250, .inl all)), (a_refused, .inl (cI, 3, .inl refused))]
abbrev rm_X9_letter : Room := { frames := 2, cells := 0, slots := 0, locals := 46 }
set_option maxRecDepth 20000 in
theorem inX9_X9_letter : ∀ w ∈ u_ws RX9 TX9 19, w ∈ wsX9_letter := by decide +kernel
def f_X9_letter_b15   (all : (Nat → Int32)) (refused : (Nat → Int32)) : Option (Int32 × (Nat → Int32) × (Nat → Int32)) := ((f_X9_bad refused (-2 : Int32)).bind fun q1 => some (q1.1, all, q1.2))
set_option maxHeartbeats 4000000 in
set_option maxRecDepth 100000 in
theorem w_X9_letter_b15 {p : Program} {l : Launch} {e : Env} {s : State} {m : MethodId} {args : Array Value} {below : List Frame} {meth : Method} {c : Code} {A : Nat → Prop} {Q : State → Prop} {D : va_G} {cI cB cZ : ClassId} {a_this a_all a_kept a_isKept a_refused a_hand a_outs a_order0 a_bestOrder a_tells a_bytes a_anew a_values : Nat} {above : Int64} {below_ : Int64} {bytesLong : Int32} {tokenAt : Int32} {tokenLong : Int32} {token : Int32} {value : Int32} (C0 : Cx p s m args c cX9_letter 4 RX9 wsX9_letter D (s_tys cI cB cZ) A) {rv : Int32 × (Nat → Int32) × (Nat → Int32)} (hend : ∀ (pc : Nat) (H : Heap) (locs : List Loc) (ls : Array Slot), decode cX9_letter pc = .ok (.ireturn, 1) → sS D vwCl A s.heap (wd_X9_letter cI cB cZ a_this a_all a_kept a_isKept a_refused a_hand a_outs a_order0 a_bestOrder a_tells a_bytes a_anew a_values rv.2.1 rv.2.2 above below_ bytesLong tokenAt tokenLong token value) H locs → W p l e rm_X9_letter s m args below meth c H locs 0 0 Q (F0 m pc ls [.int rv.1])) : ∀ (all : (Nat → Int32)) (refused : (Nat → Int32)) (H : Heap) (locs : List Loc) (ls : Array Slot), f_X9_letter_b15  all refused = some rv → sS D vwCl A s.heap (wd_X9_letter cI cB cZ a_this a_all a_kept a_isKept a_refused a_hand a_outs a_order0 a_bestOrder a_tells a_bytes a_anew a_values all refused above below_ bytesLong tokenAt tokenLong token value) H locs → lv_has ls 4 [(0, .ref a_this)] → W p l e rm_X9_letter s m args below meth c H locs 0 0 Q (F0 m 15 ls []) := by
  obtain ⟨hx, hb, hml, hown, hts, hK, hA⟩ := id C0
  have inX9 : ∀ w ∈ u_ws RX9 TX9 19, w ∈ wsX9_letter := inX9_X9_letter
  intro all refused H locs ls h hS hl
  unfold f_X9_letter_b15 at h
  refine lv_aload_n hx hb dX9_letter_15 rfl (lv_at hl 0 rfl) ?_
  refine lv_bipush (v := (-2 : Int32)) hx hb dX9_letter_16 (by decide) ?_
  obtain ⟨q1, hq1, h⟩ := s_bind h
  refine r_calliV (r := q1.1) (As := [.int (-2 : Int32)]) (rest := []) (wc := (wd_X9_bad cI cB cZ a_this a_all a_kept a_isKept a_refused a_hand a_outs a_order0 a_bestOrder a_tells a_bytes a_anew a_values refused above below_ bytesLong tokenAt tokenLong token value)) (w1 := (wd_X9_bad cI cB cZ a_this a_all a_kept a_isKept a_refused a_hand a_outs a_order0 a_bestOrder a_tells a_bytes a_anew a_values q1.2 above below_ bytesLong tokenAt tokenLong token value)) (ws' := (wd_X9_letter cI cB cZ a_this a_all a_kept a_isKept a_refused a_hand a_outs a_order0 a_bestOrder a_tells a_bytes a_anew a_values all q1.2 above below_ bytesLong tokenAt tokenLong token value)) hx hb hml hown hts hK hA hl hS (c_X9_bad l D cI cB cZ a_this a_all a_kept a_isKept a_refused a_hand a_outs a_order0 a_bestOrder a_tells a_bytes a_anew a_values refused above below_ bytesLong tokenAt tokenLong token value (-2 : Int32) _ _ hq1) (cwV 1 hts gX9_letter_X9_bad rfl rfl rfl (by decide +kernel) ⟨Nat.le_of_ble_eq_true rfl, Nat.le_of_ble_eq_true rfl⟩) 0 rfl rfl [0, 2] rfl rfl rfl [.inr 0, .inl 1, .inr 1] rfl rfl rfl rfl (Nat.le_of_ble_eq_true rfl) dX9_letter_18 (fun H locs hS => ?_)
  obtain rfl := Option.some.inj h
  exact hend _ _ _ _ dX9_letter_21 hS
def f_X9_letter   (all : (Nat → Int32)) (refused : (Nat → Int32)) (p1 : Int32) (p2 : Int32) : Option (Int32 × (Nat → Int32) × (Nat → Int32)) := ((f_X9_isOne all p1).bind fun q2 => (if q2 = 0 then f_X9_letter_b15   all refused else ((f_X9_isWord p2).bind fun q4 => (if q4 = 0 then f_X9_letter_b15   all refused else (if ¬ (((5 : Int32) + p1) < 0 ∨ 250 ≤ (Int32.toNatClampNeg ((5 : Int32) + p1))) then (if (all (Int32.toNatClampNeg ((5 : Int32) + p1))) = p2 then ((f_X9_no refused).bind fun q10 => some (q10.1, all, q10.2)) else ((f_X9_save all).bind fun q8 => (if ¬ (((5 : Int32) + p1) < 0 ∨ 250 ≤ (Int32.toNatClampNeg ((5 : Int32) + p1))) then some ((all (Int32.toNatClampNeg ((5 : Int32) + p1))), (upd q8 (Int32.toNatClampNeg ((5 : Int32) + p1)) p2), refused) else none))) else none)))))
set_option maxHeartbeats 4000000 in
set_option maxRecDepth 100000 in
theorem c_X9_letter (l : Launch) (D : va_G) (cI cB cZ : ClassId) (a_this : Nat) (a_all : Nat) (a_kept : Nat) (a_isKept : Nat) (a_refused : Nat) (a_hand : Nat) (a_outs : Nat) (a_order0 : Nat) (a_bestOrder : Nat) (a_tells : Nat) (a_bytes : Nat) (a_anew : Nat) (a_values : Nat) (all : (Nat → Int32)) (refused : (Nat → Int32)) (above : Int64) (below_ : Int64) (bytesLong : Int32) (tokenAt : Int32) (tokenLong : Int32) (token : Int32) (value : Int32) (p1 : Int32) (p2 : Int32) (rv : Int32 × (Nat → Int32) × (Nat → Int32)) (sz : Nat) (hf : f_X9_letter all refused p1 p2 = some rv) : Met l yX9_letter wsX9_letter rm_X9_letter (sPc D vwCl (s_tys cI cB cZ) [.ref a_this, .int p1, .int p2] (wd_X9_letter cI cB cZ a_this a_all a_kept a_isKept a_refused a_hand a_outs a_order0 a_bestOrder a_tells a_bytes a_anew a_values all refused above below_ bytesLong tokenAt tokenLong token value) sz) (sQi D vwCl (wd_X9_letter cI cB cZ a_this a_all a_kept a_isKept a_refused a_hand a_outs a_order0 a_bestOrder a_tells a_bytes a_anew a_values all refused above below_ bytesLong tokenAt tokenLong token value) (wd_X9_letter cI cB cZ a_this a_all a_kept a_isKept a_refused a_hand a_outs a_order0 a_bestOrder a_tells a_bytes a_anew a_values rv.2.1 rv.2.2 above below_ bytesLong tokenAt tokenLong token value) sz rv.1) 0 0 (va_A (wd_X9_letter cI cB cZ a_this a_all a_kept a_isKept a_refused a_hand a_outs a_order0 a_bestOrder a_tells a_bytes a_anew a_values all refused above below_ bytesLong tokenAt tokenLong token value) sz) := by
  refine s_enter_n (cc := cX9_letter) (nL := 4) (r := rv.1) (by decide) rfl (Nat.le_of_ble_eq_true rfl) ?_
  intro p e s m args below meth c A Q C0 hend ls hl hS
  have h := hf
  clear hf
  replace hl : lv_has ls 4 [(0, .ref a_this), (1, .int p1), (2, .int p2)] := hl
  unfold f_X9_letter at h
  obtain ⟨hx, hb, hml, hown, hts, hK, hA⟩ := id C0
  have inX9 : ∀ w ∈ u_ws RX9 TX9 19, w ∈ wsX9_letter := inX9_X9_letter
  refine lv_aload_n hx hb dX9_letter_0 rfl (lv_at hl 0 rfl) ?_
  refine lv_iload_n hx hb dX9_letter_1 rfl (lv_at hl 1 rfl) ?_
  obtain ⟨q2, hq2, h⟩ := s_bind h
  refine u_calliV (r := q2) (As := [.int p1]) (rest := []) (wc := (wd_X9_isOne cI cB cZ a_this a_all a_kept a_isKept a_refused a_hand a_outs a_order0 a_bestOrder a_tells a_bytes a_anew a_values all above below_ bytesLong tokenAt tokenLong token value)) hx hb hml hown hts hK hA hl hS (c_X9_isOne l D cI cB cZ a_this a_all a_kept a_isKept a_refused a_hand a_outs a_order0 a_bestOrder a_tells a_bytes a_anew a_values all above below_ bytesLong tokenAt tokenLong token value p1 _ _ hq2) (cwV 1 hts gX9_letter_X9_isOne rfl rfl rfl (by decide +kernel) ⟨Nat.le_of_ble_eq_true rfl, Nat.le_of_ble_eq_true rfl⟩) 0 rfl rfl [0, 1] rfl rfl rfl rfl (Nat.le_of_ble_eq_true rfl) dX9_letter_2 (fun H locs hS => ?_)
  refine lv_if_eq (tgt := 15) hx hb dX9_letter_5 (by decide) (fun c3 => ?_) (fun c3 => ?_)
  · replace h := s_yes c3 h
    exact w_X9_letter_b15 C0 hend  all refused _ _ _ h hS (lv_sub hl [0] rfl)
  replace h := s_no c3 h
  refine lv_iload_n hx hb dX9_letter_8 rfl (lv_at hl 2 rfl) ?_
  obtain ⟨q4, hq4, h⟩ := s_bind h
  refine u_calliS (r := q4) (As := [.int p2]) (rest := []) (wc := ([] : va_W)) hx hb hml hown hts hK hA hl hS (c_X9_isWord l D cI cB cZ p2 _ _ hq4) (va_cwS 1 hts gX9_letter_X9_isWord rfl rfl rfl (by decide +kernel) ⟨Nat.le_of_ble_eq_true rfl, Nat.le_of_ble_eq_true rfl⟩) [] rfl rfl rfl rfl (Nat.le_of_ble_eq_true rfl) dX9_letter_9 (fun H locs hS => ?_)
  refine lv_if_ne (tgt := 22) hx hb dX9_letter_12 (by decide) (fun c5 => ?_) (fun c5 => ?_)
  · replace h := s_no c5 h
    refine lv_aload_n hx hb dX9_letter_22 rfl (lv_at hl 0 rfl) ?_
    refine s_get (C := RX9) (T := TX9) (N := 19) hx hb hts inX9 hown hK hS 0 rfl rfl 0 (by decide) (hts (.fieldLink RX9 7 "InnTurnedModel" "all" "[I") (List.mem_of_getElem? (i := 1) rfl)) rfl rfl dX9_letter_23 ?_
    refine lv_iconst (v := (5 : Int32)) hx hb dX9_letter_26 (by decide) ?_
    refine lv_iload_n hx hb dX9_letter_27 rfl (lv_at hl 1 rfl) ?_
    refine lv_iadd hx hb dX9_letter_28 ?_
    obtain ⟨g6, h⟩ := s_guard h
    refine s_iald hx hb hK hS 1 rfl rfl g6 dX9_letter_29 ?_
    refine lv_istore_n (lv' := [(3, .int (all (Int32.toNatClampNeg ((5 : Int32) + p1)))), (0, .ref a_this), (1, .int p1), (2, .int p2)]) hx hb dX9_letter_30 rfl hl (by decide) rfl (fun ls hl => ?_)
    refine lv_iload_n hx hb dX9_letter_31 rfl (lv_at hl 0 rfl) ?_
    refine lv_iload_n hx hb dX9_letter_32 rfl (lv_at hl 3 rfl) ?_
    refine lv_icmp_ne (tgt := 41) hx hb dX9_letter_33 (by decide) (fun c7 => ?_) (fun c7 => ?_)
    · replace h := s_no c7 h
      refine lv_aload_n hx hb dX9_letter_41 rfl (lv_at hl 1 rfl) ?_
      obtain ⟨q8, hq8, h⟩ := s_bind h
      refine r_callvV (As := []) (rest := []) (wc := (wd_X9_save cI cB cZ a_this a_all a_kept a_isKept a_refused a_hand a_outs a_order0 a_bestOrder a_tells a_bytes a_anew a_values all above below_ bytesLong tokenAt tokenLong token value)) (w1 := (wd_X9_save cI cB cZ a_this a_all a_kept a_isKept a_refused a_hand a_outs a_order0 a_bestOrder a_tells a_bytes a_anew a_values q8 above below_ bytesLong tokenAt tokenLong token value)) (ws' := (wd_X9_letter cI cB cZ a_this a_all a_kept a_isKept a_refused a_hand a_outs a_order0 a_bestOrder a_tells a_bytes a_anew a_values q8 refused above below_ bytesLong tokenAt tokenLong token value)) hx hb hml hown hts hK hA hl hS (c_X9_save l D cI cB cZ a_this a_all a_kept a_isKept a_refused a_hand a_outs a_order0 a_bestOrder a_tells a_bytes a_anew a_values all above below_ bytesLong tokenAt tokenLong token value _ _ hq8) (cwV 0 hts gX9_letter_X9_save rfl rfl rfl (by decide +kernel) ⟨Nat.le_of_ble_eq_true rfl, Nat.le_of_ble_eq_true rfl⟩) 0 rfl rfl [0, 1] rfl rfl rfl [.inr 0, .inr 1, .inl 2] rfl rfl rfl rfl (Nat.le_of_ble_eq_true rfl) dX9_letter_42 (fun H locs hS => ?_)
      refine lv_aload_n hx hb dX9_letter_45 rfl (lv_at hl 1 rfl) ?_
      refine s_get (C := RX9) (T := TX9) (N := 19) hx hb hts inX9 hown hK hS 0 rfl rfl 0 (by decide) (hts (.fieldLink RX9 7 "InnTurnedModel" "all" "[I") (List.mem_of_getElem? (i := 1) rfl)) rfl rfl dX9_letter_46 ?_
      refine lv_iconst (v := (5 : Int32)) hx hb dX9_letter_49 (by decide) ?_
      refine lv_iload_n hx hb dX9_letter_50 rfl (lv_at hl 2 rfl) ?_
      refine lv_iadd hx hb dX9_letter_51 ?_
      refine lv_iload_n hx hb dX9_letter_52 rfl (lv_at hl 3 rfl) ?_
      obtain ⟨g9, h⟩ := s_guard h
      refine s_iast (ws' := (wd_X9_letter cI cB cZ a_this a_all a_kept a_isKept a_refused a_hand a_outs a_order0 a_bestOrder a_tells a_bytes a_anew a_values (upd q8 (Int32.toNatClampNeg ((5 : Int32) + p1)) p2) refused above below_ bytesLong tokenAt tokenLong token value)) hx hb hK hS 1 rfl rfl g9 rfl dX9_letter_53 (fun H locs hS => ?_)
      refine lv_iload_n hx hb dX9_letter_54 rfl (lv_at hl 0 rfl) ?_
      obtain rfl := Option.some.inj h
      exact hend _ _ _ _ dX9_letter_55 hS
    replace h := s_yes c7 h
    refine lv_aload_n hx hb dX9_letter_36 rfl (lv_at hl 1 rfl) ?_
    obtain ⟨q10, hq10, h⟩ := s_bind h
    refine r_calliV (r := q10.1) (As := []) (rest := []) (wc := (wd_X9_no cI cB cZ a_this a_all a_kept a_isKept a_refused a_hand a_outs a_order0 a_bestOrder a_tells a_bytes a_anew a_values refused above below_ bytesLong tokenAt tokenLong token value)) (w1 := (wd_X9_no cI cB cZ a_this a_all a_kept a_isKept a_refused a_hand a_outs a_order0 a_bestOrder a_tells a_bytes a_anew a_values q10.2 above below_ bytesLong tokenAt tokenLong token value)) (ws' := (wd_X9_letter cI cB cZ a_this a_all a_kept a_isKept a_refused a_hand a_outs a_order0 a_bestOrder a_tells a_bytes a_anew a_values all q10.2 above below_ bytesLong tokenAt tokenLong token value)) hx hb hml hown hts hK hA hl hS (c_X9_no l D cI cB cZ a_this a_all a_kept a_isKept a_refused a_hand a_outs a_order0 a_bestOrder a_tells a_bytes a_anew a_values refused above below_ bytesLong tokenAt tokenLong token value _ _ hq10) (cwV 0 hts gX9_letter_X9_no rfl rfl rfl (by decide +kernel) ⟨Nat.le_of_ble_eq_true rfl, Nat.le_of_ble_eq_true rfl⟩) 0 rfl rfl [0, 2] rfl rfl rfl [.inr 0, .inl 1, .inr 1] rfl rfl rfl rfl (Nat.le_of_ble_eq_true rfl) dX9_letter_37 (fun H locs hS => ?_)
    obtain rfl := Option.some.inj h
    exact hend _ _ _ _ dX9_letter_40 hS
  replace h := s_yes c5 h
  exact w_X9_letter_b15 C0 hend  all refused _ _ _ h hS (lv_sub hl [0] rfl)

-- InnTurnedModel.goNights([II)V
def wd_X9_goNights (cI cB cZ : ClassId) (a_p1 : Nat) (n_p1 : Nat) (p1 : (Nat → Int32)) : va_W := [(a_p1, .inl (cI, n_p1, .inl p1))]
abbrev rm_X9_goNights : Room := { frames := 0, cells := 0, slots := 0, locals := 0 }
def f_X9_goNights_b27 (n_p1 : Nat)  (p1 : (Nat → Int32)) (t0 : Int32) (t1 : Int32) : Option ((Nat → Int32)) := (if ¬ (t1 < 0 ∨ n_p1 ≤ (Int32.toNatClampNeg t1)) then (if ¬ ((20 : Int32) < 0 ∨ n_p1 ≤ (Int32.toNatClampNeg (20 : Int32))) then some ((upd (upd p1 (Int32.toNatClampNeg t1) t0) (Int32.toNatClampNeg (20 : Int32)) (0 : Int32))) else none) else none)
set_option maxHeartbeats 4000000 in
set_option maxRecDepth 100000 in
theorem w_X9_goNights_b27 {p : Program} {l : Launch} {e : Env} {s : State} {m : MethodId} {args : Array Value} {below : List Frame} {meth : Method} {c : Code} {A : Nat → Prop} {Q : State → Prop} {D : va_G} {cI cB cZ : ClassId} {a_p1 : Nat} {n_p1 : Nat} (C0 : Cx p s m args c cX9_goNights 2 RX9 wsX9_goNights D (s_tys cI cB cZ) A) {rv : (Nat → Int32)} (hend : ∀ (pc : Nat) (H : Heap) (locs : List Loc) (ls : Array Slot), decode cX9_goNights pc = .ok (.return_, 1) → sS D vwCl A s.heap (wd_X9_goNights cI cB cZ a_p1 n_p1 rv) H locs → W p l e rm_X9_goNights s m args below meth c H locs 0 0 Q (F0 m pc ls [])) : ∀ (p1 : (Nat → Int32)) (t0 : Int32) (t1 : Int32) (H : Heap) (locs : List Loc) (ls : Array Slot), f_X9_goNights_b27 n_p1 p1 t0 t1 = some rv → sS D vwCl A s.heap (wd_X9_goNights cI cB cZ a_p1 n_p1 p1) H locs → lv_has ls 2 [(0, .ref a_p1)] → W p l e rm_X9_goNights s m args below meth c H locs 0 0 Q (F0 m 27 ls [.int t0, .int t1, .ref a_p1]) := by
  obtain ⟨hx, hb, hml, hown, hts, hK, hA⟩ := id C0
  intro p1 t0 t1 H locs ls h hS hl
  unfold f_X9_goNights_b27 at h
  obtain ⟨g1, h⟩ := s_guard h
  refine s_iast (ws' := (wd_X9_goNights cI cB cZ a_p1 n_p1 (upd p1 (Int32.toNatClampNeg t1) t0))) hx hb hK hS 0 rfl rfl g1 rfl dX9_goNights_27 (fun H locs hS => ?_)
  refine lv_aload_n hx hb dX9_goNights_28 rfl (lv_at hl 0 rfl) ?_
  refine lv_bipush (v := (20 : Int32)) hx hb dX9_goNights_29 (by decide) ?_
  refine lv_iconst (v := (0 : Int32)) hx hb dX9_goNights_31 (by decide) ?_
  obtain ⟨g2, h⟩ := s_guard h
  refine s_iast (ws' := (wd_X9_goNights cI cB cZ a_p1 n_p1 (upd (upd p1 (Int32.toNatClampNeg t1) t0) (Int32.toNatClampNeg (20 : Int32)) (0 : Int32)))) hx hb hK hS 0 rfl rfl g2 rfl dX9_goNights_32 (fun H locs hS => ?_)
  obtain rfl := Option.some.inj h
  exact hend _ _ _ _ dX9_goNights_33 hS
def f_X9_goNights (n_p1 : Nat)  (p1 : (Nat → Int32)) (p2 : Int32) : Option ((Nat → Int32)) := (if ¬ ((22 : Int32) < 0 ∨ n_p1 ≤ (Int32.toNatClampNeg (22 : Int32))) then (if ((p1 (Int32.toNatClampNeg (22 : Int32))) + p2) ≤ (9999 : Int32) then (if ¬ ((22 : Int32) < 0 ∨ n_p1 ≤ (Int32.toNatClampNeg (22 : Int32))) then f_X9_goNights_b27  n_p1 p1 ((p1 (Int32.toNatClampNeg (22 : Int32))) + p2) (22 : Int32) else none) else f_X9_goNights_b27  n_p1 p1 (9999 : Int32) (22 : Int32)) else none)
set_option maxHeartbeats 4000000 in
set_option maxRecDepth 100000 in
theorem c_X9_goNights (l : Launch) (D : va_G) (cI cB cZ : ClassId) (a_p1 : Nat) (n_p1 : Nat) (p1 : (Nat → Int32)) (p2 : Int32) (rv : (Nat → Int32)) (sz : Nat) (hf : f_X9_goNights n_p1 p1 p2 = some rv) : Met l yX9_goNights wsX9_goNights rm_X9_goNights (sPc D vwCl (s_tys cI cB cZ) [.ref a_p1, .int p2] (wd_X9_goNights cI cB cZ a_p1 n_p1 p1) sz) (sQv D vwCl (wd_X9_goNights cI cB cZ a_p1 n_p1 p1) (wd_X9_goNights cI cB cZ a_p1 n_p1 rv) sz) 0 0 (va_A (wd_X9_goNights cI cB cZ a_p1 n_p1 p1) sz) := by
  refine s_enter_v (cc := cX9_goNights) (nL := 2) (by decide) rfl (Nat.le_of_ble_eq_true rfl) ?_
  intro p e s m args below meth c A Q C0 hend ls hl hS
  have h := hf
  clear hf
  replace hl : lv_has ls 2 [(0, .ref a_p1), (1, .int p2)] := hl
  unfold f_X9_goNights at h
  obtain ⟨hx, hb, hml, hown, hts, hK, hA⟩ := id C0
  refine lv_aload_n hx hb dX9_goNights_0 rfl (lv_at hl 0 rfl) ?_
  refine lv_bipush (v := (22 : Int32)) hx hb dX9_goNights_1 (by decide) ?_
  refine lv_aload_n hx hb dX9_goNights_3 rfl (lv_at hl 0 rfl) ?_
  refine lv_bipush (v := (22 : Int32)) hx hb dX9_goNights_4 (by decide) ?_
  obtain ⟨g3, h⟩ := s_guard h
  refine s_iald hx hb hK hS 0 rfl rfl g3 dX9_goNights_6 ?_
  refine lv_iload_n hx hb dX9_goNights_7 rfl (lv_at hl 1 rfl) ?_
  refine lv_iadd hx hb dX9_goNights_8 ?_
  refine lv_sipush (v := (9999 : Int32)) hx hb dX9_goNights_9 (by decide) ?_
  refine lv_icmp_le (tgt := 21) hx hb dX9_goNights_12 (by decide) (fun c4 => ?_) (fun c4 => ?_)
  · replace h := s_yes c4 h
    refine lv_aload_n hx hb dX9_goNights_21 rfl (lv_at hl 0 rfl) ?_
    refine lv_bipush (v := (22 : Int32)) hx hb dX9_goNights_22 (by decide) ?_
    obtain ⟨g5, h⟩ := s_guard h
    refine s_iald hx hb hK hS 0 rfl rfl g5 dX9_goNights_24 ?_
    refine lv_iload_n hx hb dX9_goNights_25 rfl (lv_at hl 1 rfl) ?_
    refine lv_iadd hx hb dX9_goNights_26 ?_
    exact w_X9_goNights_b27 C0 hend  p1 ((p1 (Int32.toNatClampNeg (22 : Int32))) + p2) (22 : Int32) _ _ _ h hS (lv_sub hl [0] rfl)
  replace h := s_no c4 h
  refine lv_sipush (v := (9999 : Int32)) hx hb dX9_goNights_15 (by decide) ?_
  refine lv_goto (tgt := 27) hx hb dX9_goNights_18 (by decide) ?_
  exact w_X9_goNights_b27 C0 hend  p1 (9999 : Int32) (22 : Int32) _ _ _ h hS (lv_sub hl [0] rfl)

-- InnTurnedModel.nights(I)I
def wd_X9_nights (cI cB cZ : ClassId) (a_this : Nat) (a_all : Nat) (a_kept : Nat) (a_isKept : Nat) (a_refused : Nat) (a_hand : Nat) (a_outs : Nat) (a_order0 : Nat) (a_bestOrder : Nat) (a_tells : Nat) (a_bytes : Nat) (a_anew : Nat) (a_values : Nat)  (all : (Nat → Int32)) (refused : (Nat → Int32)) (above : Int64) (below_ : Int64) (bytesLong : Int32) (tokenAt : Int32) (tokenLong : Int32) (token : Int32) (value : Int32) : va_W := [(a_this, .inr (6, [.ref a_all, .ref a_kept, .ref a_isKept, .ref a_refused, .long above, .long below_, .ref a_hand, .ref a_outs, .ref a_order0, .ref a_bestOrder, .ref a_tells, .ref a_bytes, .int bytesLong, .int tokenAt, .int tokenLong, .int token, .int value, .ref a_anew, .ref a_values])), (a_all, .inl (cI, 250, .inl all)), (a_refused, .inl (cI, 3, .inl refused))]
abbrev rm_X9_nights : Room := { frames := 1, cells := 0, slots := 0, locals := 25 }
set_option maxRecDepth 20000 in
theorem inX9_X9_nights : ∀ w ∈ u_ws RX9 TX9 19, w ∈ wsX9_nights := by decide +kernel
def f_X9_nights   (all : (Nat → Int32)) (refused : (Nat → Int32)) (p1 : Int32) : Option (Int32 × (Nat → Int32) × (Nat → Int32)) := ((f_X9_in (Int32.toInt64 p1) (1 : Int64) (99 : Int64)).bind fun q1 => (if q1 = 0 then ((f_X9_bad refused (-2 : Int32)).bind fun q5 => some (q5.1, all, q5.2)) else ((f_X9_save all).bind fun q3 => ((f_X9_goNights 250 q3 p1).bind fun q4 => some ((q4 (Int32.toNatClampNeg (22 : Int32))), q4, refused)))))
set_option maxHeartbeats 4000000 in
set_option maxRecDepth 100000 in
theorem c_X9_nights (l : Launch) (D : va_G) (cI cB cZ : ClassId) (a_this : Nat) (a_all : Nat) (a_kept : Nat) (a_isKept : Nat) (a_refused : Nat) (a_hand : Nat) (a_outs : Nat) (a_order0 : Nat) (a_bestOrder : Nat) (a_tells : Nat) (a_bytes : Nat) (a_anew : Nat) (a_values : Nat) (all : (Nat → Int32)) (refused : (Nat → Int32)) (above : Int64) (below_ : Int64) (bytesLong : Int32) (tokenAt : Int32) (tokenLong : Int32) (token : Int32) (value : Int32) (p1 : Int32) (rv : Int32 × (Nat → Int32) × (Nat → Int32)) (sz : Nat) (hf : f_X9_nights all refused p1 = some rv) : Met l yX9_nights wsX9_nights rm_X9_nights (sPc D vwCl (s_tys cI cB cZ) [.ref a_this, .int p1] (wd_X9_nights cI cB cZ a_this a_all a_kept a_isKept a_refused a_hand a_outs a_order0 a_bestOrder a_tells a_bytes a_anew a_values all refused above below_ bytesLong tokenAt tokenLong token value) sz) (sQi D vwCl (wd_X9_nights cI cB cZ a_this a_all a_kept a_isKept a_refused a_hand a_outs a_order0 a_bestOrder a_tells a_bytes a_anew a_values all refused above below_ bytesLong tokenAt tokenLong token value) (wd_X9_nights cI cB cZ a_this a_all a_kept a_isKept a_refused a_hand a_outs a_order0 a_bestOrder a_tells a_bytes a_anew a_values rv.2.1 rv.2.2 above below_ bytesLong tokenAt tokenLong token value) sz rv.1) 0 0 (va_A (wd_X9_nights cI cB cZ a_this a_all a_kept a_isKept a_refused a_hand a_outs a_order0 a_bestOrder a_tells a_bytes a_anew a_values all refused above below_ bytesLong tokenAt tokenLong token value) sz) := by
  refine s_enter_n (cc := cX9_nights) (nL := 2) (r := rv.1) (by decide) rfl (Nat.le_of_ble_eq_true rfl) ?_
  intro p e s m args below meth c A Q C0 hend ls hl hS
  have h := hf
  clear hf
  replace hl : lv_has ls 2 [(0, .ref a_this), (1, .int p1)] := hl
  unfold f_X9_nights at h
  obtain ⟨hx, hb, hml, hown, hts, hK, hA⟩ := id C0
  have inX9 : ∀ w ∈ u_ws RX9 TX9 19, w ∈ wsX9_nights := inX9_X9_nights
  refine lv_iload_n hx hb dX9_nights_0 rfl (lv_at hl 1 rfl) ?_
  refine lv_i2l (v := (Int32.toInt64 p1)) hx hb dX9_nights_1 rfl ?_
  refine lv_lconst (v := (1 : Int64)) hx hb dX9_nights_2 (by decide) ?_
  refine lv_ldc2 (v := (99 : Int64)) hx hb hown (hts (.constantLong RX9 141 (99)) (List.mem_of_getElem? (i := 1) rfl)) dX9_nights_3 ?_
  obtain ⟨q1, hq1, h⟩ := s_bind h
  refine u_calliS (r := q1) (As := [.long (Int32.toInt64 p1), .long (1 : Int64), .long (99 : Int64)]) (rest := []) (wc := ([] : va_W)) hx hb hml hown hts hK hA hl hS (c_X9_in l D cI cB cZ (Int32.toInt64 p1) (1 : Int64) (99 : Int64) _ _ hq1) (va_cwS 3 hts gX9_nights_X9_in rfl rfl rfl (by decide +kernel) ⟨Nat.le_of_ble_eq_true rfl, Nat.le_of_ble_eq_true rfl⟩) [] rfl rfl rfl rfl (Nat.le_of_ble_eq_true rfl) dX9_nights_6 (fun H locs hS => ?_)
  refine lv_if_ne (tgt := 19) hx hb dX9_nights_9 (by decide) (fun c2 => ?_) (fun c2 => ?_)
  · replace h := s_no c2 h
    refine lv_aload_n hx hb dX9_nights_19 rfl (lv_at hl 0 rfl) ?_
    obtain ⟨q3, hq3, h⟩ := s_bind h
    refine r_callvV (As := []) (rest := []) (wc := (wd_X9_save cI cB cZ a_this a_all a_kept a_isKept a_refused a_hand a_outs a_order0 a_bestOrder a_tells a_bytes a_anew a_values all above below_ bytesLong tokenAt tokenLong token value)) (w1 := (wd_X9_save cI cB cZ a_this a_all a_kept a_isKept a_refused a_hand a_outs a_order0 a_bestOrder a_tells a_bytes a_anew a_values q3 above below_ bytesLong tokenAt tokenLong token value)) (ws' := (wd_X9_nights cI cB cZ a_this a_all a_kept a_isKept a_refused a_hand a_outs a_order0 a_bestOrder a_tells a_bytes a_anew a_values q3 refused above below_ bytesLong tokenAt tokenLong token value)) hx hb hml hown hts hK hA hl hS (c_X9_save l D cI cB cZ a_this a_all a_kept a_isKept a_refused a_hand a_outs a_order0 a_bestOrder a_tells a_bytes a_anew a_values all above below_ bytesLong tokenAt tokenLong token value _ _ hq3) (cwV 0 hts gX9_nights_X9_save rfl rfl rfl (by decide +kernel) ⟨Nat.le_of_ble_eq_true rfl, Nat.le_of_ble_eq_true rfl⟩) 0 rfl rfl [0, 1] rfl rfl rfl [.inr 0, .inr 1, .inl 2] rfl rfl rfl rfl (Nat.le_of_ble_eq_true rfl) dX9_nights_20 (fun H locs hS => ?_)
    refine lv_aload_n hx hb dX9_nights_23 rfl (lv_at hl 0 rfl) ?_
    refine s_get (C := RX9) (T := TX9) (N := 19) hx hb hts inX9 hown hK hS 0 rfl rfl 0 (by decide) (hts (.fieldLink RX9 7 "InnTurnedModel" "all" "[I") (List.mem_of_getElem? (i := 2) rfl)) rfl rfl dX9_nights_24 ?_
    refine lv_iload_n hx hb dX9_nights_27 rfl (lv_at hl 1 rfl) ?_
    obtain ⟨q4, hq4, h⟩ := s_bind h
    refine r_callvS (As := [.ref a_all, .int p1]) (rest := []) (wc := (wd_X9_goNights cI cB cZ a_all 250 q3)) (w1 := (wd_X9_goNights cI cB cZ a_all 250 q4)) (ws' := (wd_X9_nights cI cB cZ a_this a_all a_kept a_isKept a_refused a_hand a_outs a_order0 a_bestOrder a_tells a_bytes a_anew a_values q4 refused above below_ bytesLong tokenAt tokenLong token value)) hx hb hml hown hts hK hA hl hS (c_X9_goNights l D cI cB cZ a_all 250 q3 p1 _ _ hq4) (va_cwS 2 hts gX9_nights_X9_goNights rfl rfl rfl (by decide +kernel) ⟨Nat.le_of_ble_eq_true rfl, Nat.le_of_ble_eq_true rfl⟩) [1] rfl rfl rfl [.inl 0, .inr 0, .inl 2] rfl rfl rfl rfl (Nat.le_of_ble_eq_true rfl) dX9_nights_28 (fun H locs hS => ?_)
    refine lv_aload_n hx hb dX9_nights_31 rfl (lv_at hl 0 rfl) ?_
    refine s_get (C := RX9) (T := TX9) (N := 19) hx hb hts inX9 hown hK hS 0 rfl rfl 0 (by decide) (hts (.fieldLink RX9 7 "InnTurnedModel" "all" "[I") (List.mem_of_getElem? (i := 2) rfl)) rfl rfl dX9_nights_32 ?_
    refine lv_bipush (v := (22 : Int32)) hx hb dX9_nights_35 (by decide) ?_
    refine s_iald hx hb hK hS 1 rfl rfl (by decide) dX9_nights_37 ?_
    obtain rfl := Option.some.inj h
    exact hend _ _ _ _ dX9_nights_38 hS
  replace h := s_yes c2 h
  refine lv_aload_n hx hb dX9_nights_12 rfl (lv_at hl 0 rfl) ?_
  refine lv_bipush (v := (-2 : Int32)) hx hb dX9_nights_13 (by decide) ?_
  obtain ⟨q5, hq5, h⟩ := s_bind h
  refine r_calliV (r := q5.1) (As := [.int (-2 : Int32)]) (rest := []) (wc := (wd_X9_bad cI cB cZ a_this a_all a_kept a_isKept a_refused a_hand a_outs a_order0 a_bestOrder a_tells a_bytes a_anew a_values refused above below_ bytesLong tokenAt tokenLong token value)) (w1 := (wd_X9_bad cI cB cZ a_this a_all a_kept a_isKept a_refused a_hand a_outs a_order0 a_bestOrder a_tells a_bytes a_anew a_values q5.2 above below_ bytesLong tokenAt tokenLong token value)) (ws' := (wd_X9_nights cI cB cZ a_this a_all a_kept a_isKept a_refused a_hand a_outs a_order0 a_bestOrder a_tells a_bytes a_anew a_values all q5.2 above below_ bytesLong tokenAt tokenLong token value)) hx hb hml hown hts hK hA hl hS (c_X9_bad l D cI cB cZ a_this a_all a_kept a_isKept a_refused a_hand a_outs a_order0 a_bestOrder a_tells a_bytes a_anew a_values refused above below_ bytesLong tokenAt tokenLong token value (-2 : Int32) _ _ hq5) (cwV 1 hts gX9_nights_X9_bad rfl rfl rfl (by decide +kernel) ⟨Nat.le_of_ble_eq_true rfl, Nat.le_of_ble_eq_true rfl⟩) 0 rfl rfl [0, 2] rfl rfl rfl [.inr 0, .inl 1, .inr 1] rfl rfl rfl rfl (Nat.le_of_ble_eq_true rfl) dX9_nights_15 (fun H locs hS => ?_)
  obtain rfl := Option.some.inj h
  exact hend _ _ _ _ dX9_nights_18 hS

