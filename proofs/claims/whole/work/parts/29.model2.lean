-- InnTurnedModel.undo()I
def wd_X9_undo (cI cB cZ : ClassId) (a_this : Nat) (a_all : Nat) (a_kept : Nat) (a_isKept : Nat) (a_refused : Nat) (a_hand : Nat) (a_outs : Nat) (a_order0 : Nat) (a_bestOrder : Nat) (a_tells : Nat) (a_bytes : Nat) (a_anew : Nat) (a_values : Nat)  (all : (Nat → Int32)) (refused : (Nat → Int32)) (above : Int64) (below_ : Int64) (bytesLong : Int32) (tokenAt : Int32) (tokenLong : Int32) (token : Int32) (value : Int32) : va_W := [(a_this, .inr (6, [.ref a_all, .ref a_kept, .ref a_isKept, .ref a_refused, .long above, .long below_, .ref a_hand, .ref a_outs, .ref a_order0, .ref a_bestOrder, .ref a_tells, .ref a_bytes, .int bytesLong, .int tokenAt, .int tokenLong, .int token, .int value, .ref a_anew, .ref a_values])), (a_all, .inl (cI, 250, .inl all)), (a_refused, .inl (cI, 3, .inl refused))]
abbrev rm_X9_undo : Room := { frames := 1, cells := 0, slots := 0, locals := 20 }
set_option maxRecDepth 20000 in
theorem inX9_X9_undo : ∀ w ∈ u_ws RX9 TX9 19, w ∈ wsX9_undo := by decide +kernel
def f_X9_undo_b26   : Nat → (Nat → Int32) → (Nat → Int32) → Int32 → Option (Int32 × (Nat → Int32) × (Nat → Int32))
  | 0, _, _, _ => none
  | fu + 1, all, refused, l1 => (if (18 : Int32) ≤ l1 then some ((all (Int32.toNatClampNeg (22 : Int32))), all, refused) else (if ¬ ((((106 : Int32) + ((18 : Int32) * (all (Int32.toNatClampNeg (4 : Int32))))) + l1) < 0 ∨ 250 ≤ (Int32.toNatClampNeg (((106 : Int32) + ((18 : Int32) * (all (Int32.toNatClampNeg (4 : Int32))))) + l1))) then (if ¬ (((5 : Int32) + l1) < 0 ∨ 250 ≤ (Int32.toNatClampNeg ((5 : Int32) + l1))) then (f_X9_undo_b26  fu) (upd all (Int32.toNatClampNeg ((5 : Int32) + l1)) (all (Int32.toNatClampNeg (((106 : Int32) + ((18 : Int32) * (all (Int32.toNatClampNeg (4 : Int32))))) + l1)))) refused (l1 + (1 : Int32)) else none) else none))
set_option maxHeartbeats 4000000 in
set_option maxRecDepth 100000 in
theorem w_X9_undo_b26 {p : Program} {l : Launch} {e : Env} {s : State} {m : MethodId} {args : Array Value} {below : List Frame} {meth : Method} {c : Code} {A : Nat → Prop} {Q : State → Prop} {D : va_G} {cI cB cZ : ClassId} {a_this a_all a_kept a_isKept a_refused a_hand a_outs a_order0 a_bestOrder a_tells a_bytes a_anew a_values : Nat} {above : Int64} {below_ : Int64} {bytesLong : Int32} {tokenAt : Int32} {tokenLong : Int32} {token : Int32} {value : Int32} (C0 : Cx p s m args c cX9_undo 2 RX9 wsX9_undo D (s_tys cI cB cZ) A) {rv : Int32 × (Nat → Int32) × (Nat → Int32)} (hend : ∀ (pc : Nat) (H : Heap) (locs : List Loc) (ls : Array Slot), decode cX9_undo pc = .ok (.ireturn, 1) → sS D vwCl A s.heap (wd_X9_undo cI cB cZ a_this a_all a_kept a_isKept a_refused a_hand a_outs a_order0 a_bestOrder a_tells a_bytes a_anew a_values rv.2.1 rv.2.2 above below_ bytesLong tokenAt tokenLong token value) H locs → W p l e rm_X9_undo s m args below meth c H locs 0 0 Q (F0 m pc ls [.int rv.1])) : ∀ (fu : Nat) (all : (Nat → Int32)) (refused : (Nat → Int32)) (l1 : Int32) (H : Heap) (locs : List Loc) (ls : Array Slot), f_X9_undo_b26  fu all refused l1 = some rv → sS D vwCl A s.heap (wd_X9_undo cI cB cZ a_this a_all a_kept a_isKept a_refused a_hand a_outs a_order0 a_bestOrder a_tells a_bytes a_anew a_values all refused above below_ bytesLong tokenAt tokenLong token value) H locs → lv_has ls 2 [(0, .ref a_this), (1, .int l1)] → W p l e rm_X9_undo s m args below meth c H locs 0 0 Q (F0 m 26 ls []) := by
  obtain ⟨hx, hb, hml, hown, hts, hK, hA⟩ := id C0
  have inX9 : ∀ w ∈ u_ws RX9 TX9 19, w ∈ wsX9_undo := inX9_X9_undo
  intro fu
  induction fu with
  | zero => intro all refused l1 H locs ls h; cases h
  | succ fu ih =>
    intro all refused l1 H locs ls h hS hl
    rw [f_X9_undo_b26] at h
    refine lv_iload_n hx hb dX9_undo_26 rfl (lv_at hl 1 rfl) ?_
    refine lv_bipush (v := (18 : Int32)) hx hb dX9_undo_27 (by decide) ?_
    refine lv_icmp_ge (tgt := 65) hx hb dX9_undo_29 (by decide) (fun c1 => ?_) (fun c1 => ?_)
    · replace h := s_yes c1 h
      refine lv_aload_n hx hb dX9_undo_65 rfl (lv_at hl 0 rfl) ?_
      refine s_get (C := RX9) (T := TX9) (N := 19) hx hb hts inX9 hown hK hS 0 rfl rfl 0 (by decide) (hts (.fieldLink RX9 7 "InnTurnedModel" "all" "[I") (List.mem_of_getElem? (i := 1) rfl)) rfl rfl dX9_undo_66 ?_
      refine lv_bipush (v := (22 : Int32)) hx hb dX9_undo_69 (by decide) ?_
      refine s_iald hx hb hK hS 1 rfl rfl (by decide) dX9_undo_71 ?_
      obtain rfl := Option.some.inj h
      exact hend _ _ _ _ dX9_undo_72 hS
    replace h := s_no c1 h
    refine lv_aload_n hx hb dX9_undo_32 rfl (lv_at hl 0 rfl) ?_
    refine s_get (C := RX9) (T := TX9) (N := 19) hx hb hts inX9 hown hK hS 0 rfl rfl 0 (by decide) (hts (.fieldLink RX9 7 "InnTurnedModel" "all" "[I") (List.mem_of_getElem? (i := 1) rfl)) rfl rfl dX9_undo_33 ?_
    refine lv_iconst (v := (5 : Int32)) hx hb dX9_undo_36 (by decide) ?_
    refine lv_iload_n hx hb dX9_undo_37 rfl (lv_at hl 1 rfl) ?_
    refine lv_iadd hx hb dX9_undo_38 ?_
    refine lv_aload_n hx hb dX9_undo_39 rfl (lv_at hl 0 rfl) ?_
    refine s_get (C := RX9) (T := TX9) (N := 19) hx hb hts inX9 hown hK hS 0 rfl rfl 0 (by decide) (hts (.fieldLink RX9 7 "InnTurnedModel" "all" "[I") (List.mem_of_getElem? (i := 1) rfl)) rfl rfl dX9_undo_40 ?_
    refine lv_bipush (v := (106 : Int32)) hx hb dX9_undo_43 (by decide) ?_
    refine lv_bipush (v := (18 : Int32)) hx hb dX9_undo_45 (by decide) ?_
    refine lv_aload_n hx hb dX9_undo_47 rfl (lv_at hl 0 rfl) ?_
    refine s_get (C := RX9) (T := TX9) (N := 19) hx hb hts inX9 hown hK hS 0 rfl rfl 0 (by decide) (hts (.fieldLink RX9 7 "InnTurnedModel" "all" "[I") (List.mem_of_getElem? (i := 1) rfl)) rfl rfl dX9_undo_48 ?_
    refine lv_iconst (v := (4 : Int32)) hx hb dX9_undo_51 (by decide) ?_
    refine s_iald hx hb hK hS 1 rfl rfl (by decide) dX9_undo_52 ?_
    refine lv_imul hx hb dX9_undo_53 ?_
    refine lv_iadd hx hb dX9_undo_54 ?_
    refine lv_iload_n hx hb dX9_undo_55 rfl (lv_at hl 1 rfl) ?_
    refine lv_iadd hx hb dX9_undo_56 ?_
    obtain ⟨g2, h⟩ := s_guard h
    refine s_iald hx hb hK hS 1 rfl rfl g2 dX9_undo_57 ?_
    obtain ⟨g3, h⟩ := s_guard h
    refine s_iast (ws' := (wd_X9_undo cI cB cZ a_this a_all a_kept a_isKept a_refused a_hand a_outs a_order0 a_bestOrder a_tells a_bytes a_anew a_values (upd all (Int32.toNatClampNeg ((5 : Int32) + l1)) (all (Int32.toNatClampNeg (((106 : Int32) + ((18 : Int32) * (all (Int32.toNatClampNeg (4 : Int32))))) + l1)))) refused above below_ bytesLong tokenAt tokenLong token value)) hx hb hK hS 1 rfl rfl g3 rfl dX9_undo_58 (fun H locs hS => ?_)
    refine lv_iinc (v := (l1 + (1 : Int32))) (lv' := [(1, .int (l1 + (1 : Int32))), (0, .ref a_this)]) hx hb dX9_undo_59 hl (k := 1) rfl rfl (by decide) rfl (fun ls hl => ?_)
    refine lv_goto (tgt := 26) hx hb dX9_undo_62 (by decide) ?_
    exact ih (upd all (Int32.toNatClampNeg ((5 : Int32) + l1)) (all (Int32.toNatClampNeg (((106 : Int32) + ((18 : Int32) * (all (Int32.toNatClampNeg (4 : Int32))))) + l1)))) refused (l1 + (1 : Int32)) _ _ _ h hS (lv_sub hl [1, 0] rfl)
def f_X9_undo   (all : (Nat → Int32)) (refused : (Nat → Int32)) : Option (Int32 × (Nat → Int32) × (Nat → Int32)) := (if (all (Int32.toNatClampNeg (4 : Int32))) = 0 then ((f_X9_no refused).bind fun q5 => some (q5.1, all, q5.2)) else f_X9_undo_b26   s_fuel (upd all (Int32.toNatClampNeg (4 : Int32)) ((all (Int32.toNatClampNeg (4 : Int32))) - (1 : Int32))) refused (0 : Int32))
set_option maxHeartbeats 4000000 in
set_option maxRecDepth 100000 in
theorem c_X9_undo (l : Launch) (D : va_G) (cI cB cZ : ClassId) (a_this : Nat) (a_all : Nat) (a_kept : Nat) (a_isKept : Nat) (a_refused : Nat) (a_hand : Nat) (a_outs : Nat) (a_order0 : Nat) (a_bestOrder : Nat) (a_tells : Nat) (a_bytes : Nat) (a_anew : Nat) (a_values : Nat) (all : (Nat → Int32)) (refused : (Nat → Int32)) (above : Int64) (below_ : Int64) (bytesLong : Int32) (tokenAt : Int32) (tokenLong : Int32) (token : Int32) (value : Int32) (rv : Int32 × (Nat → Int32) × (Nat → Int32)) (sz : Nat) (hf : f_X9_undo all refused = some rv) : Met l yX9_undo wsX9_undo rm_X9_undo (sPc D vwCl (s_tys cI cB cZ) [.ref a_this] (wd_X9_undo cI cB cZ a_this a_all a_kept a_isKept a_refused a_hand a_outs a_order0 a_bestOrder a_tells a_bytes a_anew a_values all refused above below_ bytesLong tokenAt tokenLong token value) sz) (sQi D vwCl (wd_X9_undo cI cB cZ a_this a_all a_kept a_isKept a_refused a_hand a_outs a_order0 a_bestOrder a_tells a_bytes a_anew a_values all refused above below_ bytesLong tokenAt tokenLong token value) (wd_X9_undo cI cB cZ a_this a_all a_kept a_isKept a_refused a_hand a_outs a_order0 a_bestOrder a_tells a_bytes a_anew a_values rv.2.1 rv.2.2 above below_ bytesLong tokenAt tokenLong token value) sz rv.1) 0 0 (va_A (wd_X9_undo cI cB cZ a_this a_all a_kept a_isKept a_refused a_hand a_outs a_order0 a_bestOrder a_tells a_bytes a_anew a_values all refused above below_ bytesLong tokenAt tokenLong token value) sz) := by
  refine s_enter_n (cc := cX9_undo) (nL := 2) (r := rv.1) (by decide) rfl (Nat.le_of_ble_eq_true rfl) ?_
  intro p e s m args below meth c A Q C0 hend ls hl hS
  have h := hf
  clear hf
  replace hl : lv_has ls 2 [(0, .ref a_this)] := hl
  unfold f_X9_undo at h
  obtain ⟨hx, hb, hml, hown, hts, hK, hA⟩ := id C0
  have inX9 : ∀ w ∈ u_ws RX9 TX9 19, w ∈ wsX9_undo := inX9_X9_undo
  refine lv_aload_n hx hb dX9_undo_0 rfl (lv_at hl 0 rfl) ?_
  refine s_get (C := RX9) (T := TX9) (N := 19) hx hb hts inX9 hown hK hS 0 rfl rfl 0 (by decide) (hts (.fieldLink RX9 7 "InnTurnedModel" "all" "[I") (List.mem_of_getElem? (i := 1) rfl)) rfl rfl dX9_undo_1 ?_
  refine lv_iconst (v := (4 : Int32)) hx hb dX9_undo_4 (by decide) ?_
  refine s_iald hx hb hK hS 1 rfl rfl (by decide) dX9_undo_5 ?_
  refine lv_if_ne (tgt := 14) hx hb dX9_undo_6 (by decide) (fun c4 => ?_) (fun c4 => ?_)
  · replace h := s_no c4 h
    refine lv_aload_n hx hb dX9_undo_14 rfl (lv_at hl 0 rfl) ?_
    refine s_get (C := RX9) (T := TX9) (N := 19) hx hb hts inX9 hown hK hS 0 rfl rfl 0 (by decide) (hts (.fieldLink RX9 7 "InnTurnedModel" "all" "[I") (List.mem_of_getElem? (i := 1) rfl)) rfl rfl dX9_undo_15 ?_
    refine lv_iconst (v := (4 : Int32)) hx hb dX9_undo_18 (by decide) ?_
    refine lv_dup2_11 hx hb dX9_undo_19 rfl rfl ?_
    refine s_iald hx hb hK hS 1 rfl rfl (by decide) dX9_undo_20 ?_
    refine lv_iconst (v := (1 : Int32)) hx hb dX9_undo_21 (by decide) ?_
    refine lv_isub hx hb dX9_undo_22 ?_
    refine s_iast (ws' := (wd_X9_undo cI cB cZ a_this a_all a_kept a_isKept a_refused a_hand a_outs a_order0 a_bestOrder a_tells a_bytes a_anew a_values (upd all (Int32.toNatClampNeg (4 : Int32)) ((all (Int32.toNatClampNeg (4 : Int32))) - (1 : Int32))) refused above below_ bytesLong tokenAt tokenLong token value)) hx hb hK hS 1 rfl rfl (by decide) rfl dX9_undo_23 (fun H locs hS => ?_)
    refine lv_iconst (v := (0 : Int32)) hx hb dX9_undo_24 (by decide) ?_
    refine lv_istore_n (lv' := [(1, .int (0 : Int32)), (0, .ref a_this)]) hx hb dX9_undo_25 rfl hl (by decide) rfl (fun ls hl => ?_)
    exact w_X9_undo_b26 C0 hend  s_fuel (upd all (Int32.toNatClampNeg (4 : Int32)) ((all (Int32.toNatClampNeg (4 : Int32))) - (1 : Int32))) refused (0 : Int32) _ _ _ h hS (lv_sub hl [1, 0] rfl)
  replace h := s_yes c4 h
  refine lv_aload_n hx hb dX9_undo_9 rfl (lv_at hl 0 rfl) ?_
  obtain ⟨q5, hq5, h⟩ := s_bind h
  refine r_calliV (r := q5.1) (As := []) (rest := []) (wc := (wd_X9_no cI cB cZ a_this a_all a_kept a_isKept a_refused a_hand a_outs a_order0 a_bestOrder a_tells a_bytes a_anew a_values refused above below_ bytesLong tokenAt tokenLong token value)) (w1 := (wd_X9_no cI cB cZ a_this a_all a_kept a_isKept a_refused a_hand a_outs a_order0 a_bestOrder a_tells a_bytes a_anew a_values q5.2 above below_ bytesLong tokenAt tokenLong token value)) (ws' := (wd_X9_undo cI cB cZ a_this a_all a_kept a_isKept a_refused a_hand a_outs a_order0 a_bestOrder a_tells a_bytes a_anew a_values all q5.2 above below_ bytesLong tokenAt tokenLong token value)) hx hb hml hown hts hK hA hl hS (c_X9_no l D cI cB cZ a_this a_all a_kept a_isKept a_refused a_hand a_outs a_order0 a_bestOrder a_tells a_bytes a_anew a_values refused above below_ bytesLong tokenAt tokenLong token value _ _ hq5) (cwV 0 hts gX9_undo_X9_no rfl rfl rfl (by decide +kernel) ⟨Nat.le_of_ble_eq_true rfl, Nat.le_of_ble_eq_true rfl⟩) 0 rfl rfl [0, 2] rfl rfl rfl [.inr 0, .inl 1, .inr 1] rfl rfl rfl rfl (Nat.le_of_ble_eq_true rfl) dX9_undo_10 (fun H locs hS => ?_)
  obtain rfl := Option.some.inj h
  exact hend _ _ _ _ dX9_undo_13 hS

-- InnTurnedModel.toldOf(II)I
def wd_X9_toldOf (cI cB cZ : ClassId) (a_this : Nat) (a_all : Nat) (a_kept : Nat) (a_isKept : Nat) (a_refused : Nat) (a_hand : Nat) (a_outs : Nat) (a_order0 : Nat) (a_bestOrder : Nat) (a_tells : Nat) (a_bytes : Nat) (a_anew : Nat) (a_values : Nat)  (all : (Nat → Int32)) (above : Int64) (below_ : Int64) (bytesLong : Int32) (tokenAt : Int32) (tokenLong : Int32) (token : Int32) (value : Int32) : va_W := [(a_this, .inr (6, [.ref a_all, .ref a_kept, .ref a_isKept, .ref a_refused, .long above, .long below_, .ref a_hand, .ref a_outs, .ref a_order0, .ref a_bestOrder, .ref a_tells, .ref a_bytes, .int bytesLong, .int tokenAt, .int tokenLong, .int token, .int value, .ref a_anew, .ref a_values])), (a_all, .inl (cI, 250, .inl all))]
abbrev rm_X9_toldOf : Room := { frames := 2, cells := 0, slots := 0, locals := 46 }
set_option maxRecDepth 20000 in
theorem inX9_X9_toldOf : ∀ w ∈ u_ws RX9 TX9 19, w ∈ wsX9_toldOf := by decide +kernel
def f_X9_toldOf  (all : (Nat → Int32))  (p1 : Int32) (p2 : Int32) : Option (Int32) := (if p2 = (0 : Int32) then (if ¬ (((31 : Int32) + p1) < 0 ∨ 250 ≤ (Int32.toNatClampNeg ((31 : Int32) + p1))) then some ((all (Int32.toNatClampNeg ((31 : Int32) + p1)))) else none) else (if p2 = (1 : Int32) then (if ¬ (((5 : Int32) + p1) < 0 ∨ 250 ≤ (Int32.toNatClampNeg ((5 : Int32) + p1))) then some ((all (Int32.toNatClampNeg ((5 : Int32) + p1)))) else none) else (if p2 = (2 : Int32) then (if ¬ (((12 : Int32) + p1) < 0 ∨ 250 ≤ (Int32.toNatClampNeg ((12 : Int32) + p1))) then some ((all (Int32.toNatClampNeg ((12 : Int32) + p1)))) else none) else (if p2 = (3 : Int32) then some ((((all (Int32.toNatClampNeg (19 : Int32))) >>> (p1 &&& 31)) &&& (1 : Int32))) else ((f_X9_likelyOf 250 all p1).bind fun q8 => some (q8))))))
set_option maxHeartbeats 4000000 in
set_option maxRecDepth 100000 in
theorem c_X9_toldOf (l : Launch) (D : va_G) (cI cB cZ : ClassId) (a_this : Nat) (a_all : Nat) (a_kept : Nat) (a_isKept : Nat) (a_refused : Nat) (a_hand : Nat) (a_outs : Nat) (a_order0 : Nat) (a_bestOrder : Nat) (a_tells : Nat) (a_bytes : Nat) (a_anew : Nat) (a_values : Nat) (all : (Nat → Int32)) (above : Int64) (below_ : Int64) (bytesLong : Int32) (tokenAt : Int32) (tokenLong : Int32) (token : Int32) (value : Int32) (p1 : Int32) (p2 : Int32) (rv : Int32) (sz : Nat) (hf : f_X9_toldOf all p1 p2 = some rv) : Met l yX9_toldOf wsX9_toldOf rm_X9_toldOf (sPc D vwCl (s_tys cI cB cZ) [.ref a_this, .int p1, .int p2] (wd_X9_toldOf cI cB cZ a_this a_all a_kept a_isKept a_refused a_hand a_outs a_order0 a_bestOrder a_tells a_bytes a_anew a_values all above below_ bytesLong tokenAt tokenLong token value) sz) (sQi D vwCl (wd_X9_toldOf cI cB cZ a_this a_all a_kept a_isKept a_refused a_hand a_outs a_order0 a_bestOrder a_tells a_bytes a_anew a_values all above below_ bytesLong tokenAt tokenLong token value) (wd_X9_toldOf cI cB cZ a_this a_all a_kept a_isKept a_refused a_hand a_outs a_order0 a_bestOrder a_tells a_bytes a_anew a_values all above below_ bytesLong tokenAt tokenLong token value) sz rv) 0 0 (va_A (wd_X9_toldOf cI cB cZ a_this a_all a_kept a_isKept a_refused a_hand a_outs a_order0 a_bestOrder a_tells a_bytes a_anew a_values all above below_ bytesLong tokenAt tokenLong token value) sz) := by
  refine s_enter_n (cc := cX9_toldOf) (nL := 3) (r := rv) (by decide) rfl (Nat.le_of_ble_eq_true rfl) ?_
  intro p e s m args below meth c A Q C0 hend ls hl hS
  have h := hf
  clear hf
  replace hl : lv_has ls 3 [(0, .ref a_this), (1, .int p1), (2, .int p2)] := hl
  unfold f_X9_toldOf at h
  obtain ⟨hx, hb, hml, hown, hts, hK, hA⟩ := id C0
  have inX9 : ∀ w ∈ u_ws RX9 TX9 19, w ∈ wsX9_toldOf := inX9_X9_toldOf
  refine lv_iload_n hx hb dX9_toldOf_0 rfl (lv_at hl 2 rfl) ?_
  by_cases e1 : p2 = (0 : Int32)
  · refine s_sw hx hb (0 : Int32) e1 dX9_toldOf_1 (tgt := 32) (by decide) (by decide) rfl (by decide) ?_
    replace h := s_yes e1 h
    refine lv_aload_n hx hb dX9_toldOf_32 rfl (lv_at hl 0 rfl) ?_
    refine s_get (C := RX9) (T := TX9) (N := 19) hx hb hts inX9 hown hK hS 0 rfl rfl 0 (by decide) (hts (.fieldLink RX9 7 "InnTurnedModel" "all" "[I") (List.mem_of_getElem? (i := 1) rfl)) rfl rfl dX9_toldOf_33 ?_
    refine lv_bipush (v := (31 : Int32)) hx hb dX9_toldOf_36 (by decide) ?_
    refine lv_iload_n hx hb dX9_toldOf_38 rfl (lv_at hl 1 rfl) ?_
    refine lv_iadd hx hb dX9_toldOf_39 ?_
    obtain ⟨g2, h⟩ := s_guard h
    refine s_iald hx hb hK hS 1 rfl rfl g2 dX9_toldOf_40 ?_
    obtain rfl := Option.some.inj h
    exact hend _ _ _ _ dX9_toldOf_41 hS
  replace h := s_no e1 h
  by_cases e3 : p2 = (1 : Int32)
  · refine s_sw hx hb (1 : Int32) e3 dX9_toldOf_1 (tgt := 42) (by decide) (by decide) rfl (by decide) ?_
    replace h := s_yes e3 h
    refine lv_aload_n hx hb dX9_toldOf_42 rfl (lv_at hl 0 rfl) ?_
    refine s_get (C := RX9) (T := TX9) (N := 19) hx hb hts inX9 hown hK hS 0 rfl rfl 0 (by decide) (hts (.fieldLink RX9 7 "InnTurnedModel" "all" "[I") (List.mem_of_getElem? (i := 1) rfl)) rfl rfl dX9_toldOf_43 ?_
    refine lv_iconst (v := (5 : Int32)) hx hb dX9_toldOf_46 (by decide) ?_
    refine lv_iload_n hx hb dX9_toldOf_47 rfl (lv_at hl 1 rfl) ?_
    refine lv_iadd hx hb dX9_toldOf_48 ?_
    obtain ⟨g4, h⟩ := s_guard h
    refine s_iald hx hb hK hS 1 rfl rfl g4 dX9_toldOf_49 ?_
    obtain rfl := Option.some.inj h
    exact hend _ _ _ _ dX9_toldOf_50 hS
  replace h := s_no e3 h
  by_cases e5 : p2 = (2 : Int32)
  · refine s_sw hx hb (2 : Int32) e5 dX9_toldOf_1 (tgt := 51) (by decide) (by decide) rfl (by decide) ?_
    replace h := s_yes e5 h
    refine lv_aload_n hx hb dX9_toldOf_51 rfl (lv_at hl 0 rfl) ?_
    refine s_get (C := RX9) (T := TX9) (N := 19) hx hb hts inX9 hown hK hS 0 rfl rfl 0 (by decide) (hts (.fieldLink RX9 7 "InnTurnedModel" "all" "[I") (List.mem_of_getElem? (i := 1) rfl)) rfl rfl dX9_toldOf_52 ?_
    refine lv_bipush (v := (12 : Int32)) hx hb dX9_toldOf_55 (by decide) ?_
    refine lv_iload_n hx hb dX9_toldOf_57 rfl (lv_at hl 1 rfl) ?_
    refine lv_iadd hx hb dX9_toldOf_58 ?_
    obtain ⟨g6, h⟩ := s_guard h
    refine s_iald hx hb hK hS 1 rfl rfl g6 dX9_toldOf_59 ?_
    obtain rfl := Option.some.inj h
    exact hend _ _ _ _ dX9_toldOf_60 hS
  replace h := s_no e5 h
  by_cases e7 : p2 = (3 : Int32)
  · refine s_sw hx hb (3 : Int32) e7 dX9_toldOf_1 (tgt := 61) (by decide) (by decide) rfl (by decide) ?_
    replace h := s_yes e7 h
    refine lv_aload_n hx hb dX9_toldOf_61 rfl (lv_at hl 0 rfl) ?_
    refine s_get (C := RX9) (T := TX9) (N := 19) hx hb hts inX9 hown hK hS 0 rfl rfl 0 (by decide) (hts (.fieldLink RX9 7 "InnTurnedModel" "all" "[I") (List.mem_of_getElem? (i := 1) rfl)) rfl rfl dX9_toldOf_62 ?_
    refine lv_bipush (v := (19 : Int32)) hx hb dX9_toldOf_65 (by decide) ?_
    refine s_iald hx hb hK hS 1 rfl rfl (by decide) dX9_toldOf_67 ?_
    refine lv_iload_n hx hb dX9_toldOf_68 rfl (lv_at hl 1 rfl) ?_
    refine lv_ishr hx hb dX9_toldOf_69 ?_
    refine lv_iconst (v := (1 : Int32)) hx hb dX9_toldOf_70 (by decide) ?_
    refine lv_iand hx hb dX9_toldOf_71 ?_
    obtain rfl := Option.some.inj h
    exact hend _ _ _ _ dX9_toldOf_72 hS
  replace h := s_no e7 h
  refine lv_tableOut (tgt := 73) hx hb dX9_toldOf_1 (by have ze1 := s_ne 0 (by exact e1) (by decide); have ze3 := s_ne 1 (by exact e3) (by decide); have ze5 := s_ne 2 (by exact e5) (by decide); have ze7 := s_ne 3 (by exact e7) (by decide); omega) (by decide) ?_
  refine lv_aload_n hx hb dX9_toldOf_73 rfl (lv_at hl 0 rfl) ?_
  refine s_get (C := RX9) (T := TX9) (N := 19) hx hb hts inX9 hown hK hS 0 rfl rfl 0 (by decide) (hts (.fieldLink RX9 7 "InnTurnedModel" "all" "[I") (List.mem_of_getElem? (i := 1) rfl)) rfl rfl dX9_toldOf_74 ?_
  refine lv_iload_n hx hb dX9_toldOf_77 rfl (lv_at hl 1 rfl) ?_
  obtain ⟨q8, hq8, h⟩ := s_bind h
  refine u_calliS (r := q8) (As := [.ref a_all, .int p1]) (rest := []) (wc := (wd_X9_likelyOf cI cB cZ a_all 250 all)) hx hb hml hown hts hK hA hl hS (c_X9_likelyOf l D cI cB cZ a_all 250 all p1 _ _ hq8) (va_cwS 2 hts gX9_toldOf_X9_likelyOf rfl rfl rfl (by decide +kernel) ⟨Nat.le_of_ble_eq_true rfl, Nat.le_of_ble_eq_true rfl⟩) [1] rfl rfl rfl rfl (Nat.le_of_ble_eq_true rfl) dX9_toldOf_78 (fun H locs hS => ?_)
  obtain rfl := Option.some.inj h
  exact hend _ _ _ _ dX9_toldOf_81 hS

-- InnTurnedModel.of(II)I
def wd_X9_of (cI cB cZ : ClassId) (a_this : Nat) (a_all : Nat) (a_kept : Nat) (a_isKept : Nat) (a_refused : Nat) (a_hand : Nat) (a_outs : Nat) (a_order0 : Nat) (a_bestOrder : Nat) (a_tells : Nat) (a_bytes : Nat) (a_anew : Nat) (a_values : Nat)  (all : (Nat → Int32)) (refused : (Nat → Int32)) (above : Int64) (below_ : Int64) (bytesLong : Int32) (tokenAt : Int32) (tokenLong : Int32) (token : Int32) (value : Int32) : va_W := [(a_this, .inr (6, [.ref a_all, .ref a_kept, .ref a_isKept, .ref a_refused, .long above, .long below_, .ref a_hand, .ref a_outs, .ref a_order0, .ref a_bestOrder, .ref a_tells, .ref a_bytes, .int bytesLong, .int tokenAt, .int tokenLong, .int token, .int value, .ref a_anew, .ref a_values])), (a_all, .inl (cI, 250, .inl all)), (a_refused, .inl (cI, 3, .inl refused))]
abbrev rm_X9_of : Room := { frames := 3, cells := 0, slots := 0, locals := 68 }
def f_X9_of_b29  (all : (Nat → Int32)) (refused : (Nat → Int32)) : Option (Int32 × (Nat → Int32)) := ((f_X9_bad refused (-2 : Int32)).bind fun q1 => some (q1.1, q1.2))
set_option maxHeartbeats 4000000 in
set_option maxRecDepth 100000 in
theorem w_X9_of_b29 {p : Program} {l : Launch} {e : Env} {s : State} {m : MethodId} {args : Array Value} {below : List Frame} {meth : Method} {c : Code} {A : Nat → Prop} {Q : State → Prop} {D : va_G} {cI cB cZ : ClassId} {a_this a_all a_kept a_isKept a_refused a_hand a_outs a_order0 a_bestOrder a_tells a_bytes a_anew a_values : Nat} {all : (Nat → Int32)} {above : Int64} {below_ : Int64} {bytesLong : Int32} {tokenAt : Int32} {tokenLong : Int32} {token : Int32} {value : Int32} (C0 : Cx p s m args c cX9_of 3 RX9 wsX9_of D (s_tys cI cB cZ) A) {rv : Int32 × (Nat → Int32)} (hend : ∀ (pc : Nat) (H : Heap) (locs : List Loc) (ls : Array Slot), decode cX9_of pc = .ok (.ireturn, 1) → sS D vwCl A s.heap (wd_X9_of cI cB cZ a_this a_all a_kept a_isKept a_refused a_hand a_outs a_order0 a_bestOrder a_tells a_bytes a_anew a_values all rv.2 above below_ bytesLong tokenAt tokenLong token value) H locs → W p l e rm_X9_of s m args below meth c H locs 0 0 Q (F0 m pc ls [.int rv.1])) : ∀ (refused : (Nat → Int32)) (H : Heap) (locs : List Loc) (ls : Array Slot), f_X9_of_b29 all refused = some rv → sS D vwCl A s.heap (wd_X9_of cI cB cZ a_this a_all a_kept a_isKept a_refused a_hand a_outs a_order0 a_bestOrder a_tells a_bytes a_anew a_values all refused above below_ bytesLong tokenAt tokenLong token value) H locs → lv_has ls 3 [(0, .ref a_this)] → W p l e rm_X9_of s m args below meth c H locs 0 0 Q (F0 m 29 ls []) := by
  obtain ⟨hx, hb, hml, hown, hts, hK, hA⟩ := id C0
  intro refused H locs ls h hS hl
  unfold f_X9_of_b29 at h
  refine lv_aload_n hx hb dX9_of_29 rfl (lv_at hl 0 rfl) ?_
  refine lv_bipush (v := (-2 : Int32)) hx hb dX9_of_30 (by decide) ?_
  obtain ⟨q1, hq1, h⟩ := s_bind h
  refine r_calliV (r := q1.1) (As := [.int (-2 : Int32)]) (rest := []) (wc := (wd_X9_bad cI cB cZ a_this a_all a_kept a_isKept a_refused a_hand a_outs a_order0 a_bestOrder a_tells a_bytes a_anew a_values refused above below_ bytesLong tokenAt tokenLong token value)) (w1 := (wd_X9_bad cI cB cZ a_this a_all a_kept a_isKept a_refused a_hand a_outs a_order0 a_bestOrder a_tells a_bytes a_anew a_values q1.2 above below_ bytesLong tokenAt tokenLong token value)) (ws' := (wd_X9_of cI cB cZ a_this a_all a_kept a_isKept a_refused a_hand a_outs a_order0 a_bestOrder a_tells a_bytes a_anew a_values all q1.2 above below_ bytesLong tokenAt tokenLong token value)) hx hb hml hown hts hK hA hl hS (c_X9_bad l D cI cB cZ a_this a_all a_kept a_isKept a_refused a_hand a_outs a_order0 a_bestOrder a_tells a_bytes a_anew a_values refused above below_ bytesLong tokenAt tokenLong token value (-2 : Int32) _ _ hq1) (cwV 1 hts gX9_of_X9_bad rfl rfl rfl (by decide +kernel) ⟨Nat.le_of_ble_eq_true rfl, Nat.le_of_ble_eq_true rfl⟩) 0 rfl rfl [0, 2] rfl rfl rfl [.inr 0, .inl 1, .inr 1] rfl rfl rfl rfl (Nat.le_of_ble_eq_true rfl) dX9_of_32 (fun H locs hS => ?_)
  obtain rfl := Option.some.inj h
  exact hend _ _ _ _ dX9_of_35 hS
def f_X9_of  (all : (Nat → Int32)) (refused : (Nat → Int32)) (p1 : Int32) (p2 : Int32) : Option (Int32 × (Nat → Int32)) := ((f_X9_isOne all p1).bind fun q2 => (if q2 = 0 then f_X9_of_b29  all refused else ((f_X9_in (Int32.toInt64 p2) (0 : Int64) (4 : Int64)).bind fun q4 => (if q4 = 0 then f_X9_of_b29  all refused else ((f_X9_toldOf all p1 p2).bind fun q6 => some (q6, refused))))))
set_option maxHeartbeats 4000000 in
set_option maxRecDepth 100000 in
theorem c_X9_of (l : Launch) (D : va_G) (cI cB cZ : ClassId) (a_this : Nat) (a_all : Nat) (a_kept : Nat) (a_isKept : Nat) (a_refused : Nat) (a_hand : Nat) (a_outs : Nat) (a_order0 : Nat) (a_bestOrder : Nat) (a_tells : Nat) (a_bytes : Nat) (a_anew : Nat) (a_values : Nat) (all : (Nat → Int32)) (refused : (Nat → Int32)) (above : Int64) (below_ : Int64) (bytesLong : Int32) (tokenAt : Int32) (tokenLong : Int32) (token : Int32) (value : Int32) (p1 : Int32) (p2 : Int32) (rv : Int32 × (Nat → Int32)) (sz : Nat) (hf : f_X9_of all refused p1 p2 = some rv) : Met l yX9_of wsX9_of rm_X9_of (sPc D vwCl (s_tys cI cB cZ) [.ref a_this, .int p1, .int p2] (wd_X9_of cI cB cZ a_this a_all a_kept a_isKept a_refused a_hand a_outs a_order0 a_bestOrder a_tells a_bytes a_anew a_values all refused above below_ bytesLong tokenAt tokenLong token value) sz) (sQi D vwCl (wd_X9_of cI cB cZ a_this a_all a_kept a_isKept a_refused a_hand a_outs a_order0 a_bestOrder a_tells a_bytes a_anew a_values all refused above below_ bytesLong tokenAt tokenLong token value) (wd_X9_of cI cB cZ a_this a_all a_kept a_isKept a_refused a_hand a_outs a_order0 a_bestOrder a_tells a_bytes a_anew a_values all rv.2 above below_ bytesLong tokenAt tokenLong token value) sz rv.1) 0 0 (va_A (wd_X9_of cI cB cZ a_this a_all a_kept a_isKept a_refused a_hand a_outs a_order0 a_bestOrder a_tells a_bytes a_anew a_values all refused above below_ bytesLong tokenAt tokenLong token value) sz) := by
  refine s_enter_n (cc := cX9_of) (nL := 3) (r := rv.1) (by decide) rfl (Nat.le_of_ble_eq_true rfl) ?_
  intro p e s m args below meth c A Q C0 hend ls hl hS
  have h := hf
  clear hf
  replace hl : lv_has ls 3 [(0, .ref a_this), (1, .int p1), (2, .int p2)] := hl
  unfold f_X9_of at h
  obtain ⟨hx, hb, hml, hown, hts, hK, hA⟩ := id C0
  refine lv_aload_n hx hb dX9_of_0 rfl (lv_at hl 0 rfl) ?_
  refine lv_iload_n hx hb dX9_of_1 rfl (lv_at hl 1 rfl) ?_
  obtain ⟨q2, hq2, h⟩ := s_bind h
  refine u_calliV (r := q2) (As := [.int p1]) (rest := []) (wc := (wd_X9_isOne cI cB cZ a_this a_all a_kept a_isKept a_refused a_hand a_outs a_order0 a_bestOrder a_tells a_bytes a_anew a_values all above below_ bytesLong tokenAt tokenLong token value)) hx hb hml hown hts hK hA hl hS (c_X9_isOne l D cI cB cZ a_this a_all a_kept a_isKept a_refused a_hand a_outs a_order0 a_bestOrder a_tells a_bytes a_anew a_values all above below_ bytesLong tokenAt tokenLong token value p1 _ _ hq2) (cwV 1 hts gX9_of_X9_isOne rfl rfl rfl (by decide +kernel) ⟨Nat.le_of_ble_eq_true rfl, Nat.le_of_ble_eq_true rfl⟩) 0 rfl rfl [0, 1] rfl rfl rfl rfl (Nat.le_of_ble_eq_true rfl) dX9_of_2 (fun H locs hS => ?_)
  refine lv_if_eq (tgt := 29) hx hb dX9_of_5 (by decide) (fun c3 => ?_) (fun c3 => ?_)
  · replace h := s_yes c3 h
    exact w_X9_of_b29 C0 hend  refused _ _ _ h hS (lv_sub hl [0] rfl)
  replace h := s_no c3 h
  refine lv_iload_n hx hb dX9_of_8 rfl (lv_at hl 2 rfl) ?_
  refine lv_i2l (v := (Int32.toInt64 p2)) hx hb dX9_of_9 rfl ?_
  refine lv_lconst (v := (0 : Int64)) hx hb dX9_of_10 (by decide) ?_
  refine lv_ldc2 (v := (4 : Int64)) hx hb hown (hts (.constantLong RX9 67 (4)) (List.mem_of_getElem? (i := 1) rfl)) dX9_of_11 ?_
  obtain ⟨q4, hq4, h⟩ := s_bind h
  refine u_calliS (r := q4) (As := [.long (Int32.toInt64 p2), .long (0 : Int64), .long (4 : Int64)]) (rest := []) (wc := ([] : va_W)) hx hb hml hown hts hK hA hl hS (c_X9_in l D cI cB cZ (Int32.toInt64 p2) (0 : Int64) (4 : Int64) _ _ hq4) (va_cwS 3 hts gX9_of_X9_in rfl rfl rfl (by decide +kernel) ⟨Nat.le_of_ble_eq_true rfl, Nat.le_of_ble_eq_true rfl⟩) [] rfl rfl rfl rfl (Nat.le_of_ble_eq_true rfl) dX9_of_14 (fun H locs hS => ?_)
  refine lv_if_eq (tgt := 29) hx hb dX9_of_17 (by decide) (fun c5 => ?_) (fun c5 => ?_)
  · replace h := s_yes c5 h
    exact w_X9_of_b29 C0 hend  refused _ _ _ h hS (lv_sub hl [0] rfl)
  replace h := s_no c5 h
  refine lv_aload_n hx hb dX9_of_20 rfl (lv_at hl 0 rfl) ?_
  refine lv_iload_n hx hb dX9_of_21 rfl (lv_at hl 1 rfl) ?_
  refine lv_iload_n hx hb dX9_of_22 rfl (lv_at hl 2 rfl) ?_
  obtain ⟨q6, hq6, h⟩ := s_bind h
  refine u_calliV (r := q6) (As := [.int p1, .int p2]) (rest := []) (wc := (wd_X9_toldOf cI cB cZ a_this a_all a_kept a_isKept a_refused a_hand a_outs a_order0 a_bestOrder a_tells a_bytes a_anew a_values all above below_ bytesLong tokenAt tokenLong token value)) hx hb hml hown hts hK hA hl hS (c_X9_toldOf l D cI cB cZ a_this a_all a_kept a_isKept a_refused a_hand a_outs a_order0 a_bestOrder a_tells a_bytes a_anew a_values all above below_ bytesLong tokenAt tokenLong token value p1 p2 _ _ hq6) (cwV 2 hts gX9_of_X9_toldOf rfl rfl rfl (by decide +kernel) ⟨Nat.le_of_ble_eq_true rfl, Nat.le_of_ble_eq_true rfl⟩) 0 rfl rfl [0, 1] rfl rfl rfl rfl (Nat.le_of_ble_eq_true rfl) dX9_of_23 (fun H locs hS => ?_)
  refine lv_goto (tgt := 35) hx hb dX9_of_26 (by decide) ?_
  obtain rfl := Option.some.inj h
  exact hend _ _ _ _ dX9_of_35 hS

-- InnTurnedModel.toldNow(I)I
def wd_X9_toldNow (cI cB cZ : ClassId) (a_this : Nat) (a_all : Nat) (a_kept : Nat) (a_isKept : Nat) (a_refused : Nat) (a_hand : Nat) (a_outs : Nat) (a_order0 : Nat) (a_bestOrder : Nat) (a_tells : Nat) (a_bytes : Nat) (a_anew : Nat) (a_values : Nat)  (all : (Nat → Int32)) (above : Int64) (below_ : Int64) (bytesLong : Int32) (tokenAt : Int32) (tokenLong : Int32) (token : Int32) (value : Int32) : va_W := [(a_this, .inr (6, [.ref a_all, .ref a_kept, .ref a_isKept, .ref a_refused, .long above, .long below_, .ref a_hand, .ref a_outs, .ref a_order0, .ref a_bestOrder, .ref a_tells, .ref a_bytes, .int bytesLong, .int tokenAt, .int tokenLong, .int token, .int value, .ref a_anew, .ref a_values])), (a_all, .inl (cI, 250, .inl all))]
abbrev rm_X9_toldNow : Room := { frames := 2, cells := 0, slots := 0, locals := 44 }
set_option maxRecDepth 20000 in
theorem inX9_X9_toldNow : ∀ w ∈ u_ws RX9 TX9 19, w ∈ wsX9_toldNow := by decide +kernel
def f_X9_toldNow  (all : (Nat → Int32))  (p1 : Int32) : Option (Int32) := (if p1 = (0 : Int32) then some ((all (Int32.toNatClampNeg (23 : Int32)))) else (if p1 = (1 : Int32) then some ((all (Int32.toNatClampNeg (24 : Int32)))) else (if p1 = (2 : Int32) then some ((all (Int32.toNatClampNeg (20 : Int32)))) else (if p1 = (3 : Int32) then some ((all (Int32.toNatClampNeg (21 : Int32)))) else (if p1 = (4 : Int32) then ((f_X9_passesNow 250 all).bind fun q6 => some (q6)) else ((f_X9_wetOf 250 all (all (Int32.toNatClampNeg (22 : Int32)))).bind fun q7 => some (q7)))))))
set_option maxHeartbeats 4000000 in
set_option maxRecDepth 100000 in
theorem c_X9_toldNow (l : Launch) (D : va_G) (cI cB cZ : ClassId) (a_this : Nat) (a_all : Nat) (a_kept : Nat) (a_isKept : Nat) (a_refused : Nat) (a_hand : Nat) (a_outs : Nat) (a_order0 : Nat) (a_bestOrder : Nat) (a_tells : Nat) (a_bytes : Nat) (a_anew : Nat) (a_values : Nat) (all : (Nat → Int32)) (above : Int64) (below_ : Int64) (bytesLong : Int32) (tokenAt : Int32) (tokenLong : Int32) (token : Int32) (value : Int32) (p1 : Int32) (rv : Int32) (sz : Nat) (hf : f_X9_toldNow all p1 = some rv) : Met l yX9_toldNow wsX9_toldNow rm_X9_toldNow (sPc D vwCl (s_tys cI cB cZ) [.ref a_this, .int p1] (wd_X9_toldNow cI cB cZ a_this a_all a_kept a_isKept a_refused a_hand a_outs a_order0 a_bestOrder a_tells a_bytes a_anew a_values all above below_ bytesLong tokenAt tokenLong token value) sz) (sQi D vwCl (wd_X9_toldNow cI cB cZ a_this a_all a_kept a_isKept a_refused a_hand a_outs a_order0 a_bestOrder a_tells a_bytes a_anew a_values all above below_ bytesLong tokenAt tokenLong token value) (wd_X9_toldNow cI cB cZ a_this a_all a_kept a_isKept a_refused a_hand a_outs a_order0 a_bestOrder a_tells a_bytes a_anew a_values all above below_ bytesLong tokenAt tokenLong token value) sz rv) 0 0 (va_A (wd_X9_toldNow cI cB cZ a_this a_all a_kept a_isKept a_refused a_hand a_outs a_order0 a_bestOrder a_tells a_bytes a_anew a_values all above below_ bytesLong tokenAt tokenLong token value) sz) := by
  refine s_enter_n (cc := cX9_toldNow) (nL := 2) (r := rv) (by decide) rfl (Nat.le_of_ble_eq_true rfl) ?_
  intro p e s m args below meth c A Q C0 hend ls hl hS
  have h := hf
  clear hf
  replace hl : lv_has ls 2 [(0, .ref a_this), (1, .int p1)] := hl
  unfold f_X9_toldNow at h
  obtain ⟨hx, hb, hml, hown, hts, hK, hA⟩ := id C0
  have inX9 : ∀ w ∈ u_ws RX9 TX9 19, w ∈ wsX9_toldNow := inX9_X9_toldNow
  refine lv_iload_n hx hb dX9_toldNow_0 rfl (lv_at hl 1 rfl) ?_
  by_cases e1 : p1 = (0 : Int32)
  · refine s_sw hx hb (0 : Int32) e1 dX9_toldNow_1 (tgt := 36) (by decide) (by decide) rfl (by decide) ?_
    replace h := s_yes e1 h
    refine lv_aload_n hx hb dX9_toldNow_36 rfl (lv_at hl 0 rfl) ?_
    refine s_get (C := RX9) (T := TX9) (N := 19) hx hb hts inX9 hown hK hS 0 rfl rfl 0 (by decide) (hts (.fieldLink RX9 7 "InnTurnedModel" "all" "[I") (List.mem_of_getElem? (i := 1) rfl)) rfl rfl dX9_toldNow_37 ?_
    refine lv_bipush (v := (23 : Int32)) hx hb dX9_toldNow_40 (by decide) ?_
    refine s_iald hx hb hK hS 1 rfl rfl (by decide) dX9_toldNow_42 ?_
    obtain rfl := Option.some.inj h
    exact hend _ _ _ _ dX9_toldNow_43 hS
  replace h := s_no e1 h
  by_cases e2 : p1 = (1 : Int32)
  · refine s_sw hx hb (1 : Int32) e2 dX9_toldNow_1 (tgt := 44) (by decide) (by decide) rfl (by decide) ?_
    replace h := s_yes e2 h
    refine lv_aload_n hx hb dX9_toldNow_44 rfl (lv_at hl 0 rfl) ?_
    refine s_get (C := RX9) (T := TX9) (N := 19) hx hb hts inX9 hown hK hS 0 rfl rfl 0 (by decide) (hts (.fieldLink RX9 7 "InnTurnedModel" "all" "[I") (List.mem_of_getElem? (i := 1) rfl)) rfl rfl dX9_toldNow_45 ?_
    refine lv_bipush (v := (24 : Int32)) hx hb dX9_toldNow_48 (by decide) ?_
    refine s_iald hx hb hK hS 1 rfl rfl (by decide) dX9_toldNow_50 ?_
    obtain rfl := Option.some.inj h
    exact hend _ _ _ _ dX9_toldNow_51 hS
  replace h := s_no e2 h
  by_cases e3 : p1 = (2 : Int32)
  · refine s_sw hx hb (2 : Int32) e3 dX9_toldNow_1 (tgt := 52) (by decide) (by decide) rfl (by decide) ?_
    replace h := s_yes e3 h
    refine lv_aload_n hx hb dX9_toldNow_52 rfl (lv_at hl 0 rfl) ?_
    refine s_get (C := RX9) (T := TX9) (N := 19) hx hb hts inX9 hown hK hS 0 rfl rfl 0 (by decide) (hts (.fieldLink RX9 7 "InnTurnedModel" "all" "[I") (List.mem_of_getElem? (i := 1) rfl)) rfl rfl dX9_toldNow_53 ?_
    refine lv_bipush (v := (20 : Int32)) hx hb dX9_toldNow_56 (by decide) ?_
    refine s_iald hx hb hK hS 1 rfl rfl (by decide) dX9_toldNow_58 ?_
    obtain rfl := Option.some.inj h
    exact hend _ _ _ _ dX9_toldNow_59 hS
  replace h := s_no e3 h
  by_cases e4 : p1 = (3 : Int32)
  · refine s_sw hx hb (3 : Int32) e4 dX9_toldNow_1 (tgt := 60) (by decide) (by decide) rfl (by decide) ?_
    replace h := s_yes e4 h
    refine lv_aload_n hx hb dX9_toldNow_60 rfl (lv_at hl 0 rfl) ?_
    refine s_get (C := RX9) (T := TX9) (N := 19) hx hb hts inX9 hown hK hS 0 rfl rfl 0 (by decide) (hts (.fieldLink RX9 7 "InnTurnedModel" "all" "[I") (List.mem_of_getElem? (i := 1) rfl)) rfl rfl dX9_toldNow_61 ?_
    refine lv_bipush (v := (21 : Int32)) hx hb dX9_toldNow_64 (by decide) ?_
    refine s_iald hx hb hK hS 1 rfl rfl (by decide) dX9_toldNow_66 ?_
    obtain rfl := Option.some.inj h
    exact hend _ _ _ _ dX9_toldNow_67 hS
  replace h := s_no e4 h
  by_cases e5 : p1 = (4 : Int32)
  · refine s_sw hx hb (4 : Int32) e5 dX9_toldNow_1 (tgt := 68) (by decide) (by decide) rfl (by decide) ?_
    replace h := s_yes e5 h
    refine lv_aload_n hx hb dX9_toldNow_68 rfl (lv_at hl 0 rfl) ?_
    refine s_get (C := RX9) (T := TX9) (N := 19) hx hb hts inX9 hown hK hS 0 rfl rfl 0 (by decide) (hts (.fieldLink RX9 7 "InnTurnedModel" "all" "[I") (List.mem_of_getElem? (i := 1) rfl)) rfl rfl dX9_toldNow_69 ?_
    obtain ⟨q6, hq6, h⟩ := s_bind h
    refine u_calliS (r := q6) (As := [.ref a_all]) (rest := []) (wc := (wd_X9_passesNow cI cB cZ a_all 250 all)) hx hb hml hown hts hK hA hl hS (c_X9_passesNow l D cI cB cZ a_all 250 all _ _ hq6) (va_cwS 1 hts gX9_toldNow_X9_passesNow rfl rfl rfl (by decide +kernel) ⟨Nat.le_of_ble_eq_true rfl, Nat.le_of_ble_eq_true rfl⟩) [1] rfl rfl rfl rfl (Nat.le_of_ble_eq_true rfl) dX9_toldNow_72 (fun H locs hS => ?_)
    obtain rfl := Option.some.inj h
    exact hend _ _ _ _ dX9_toldNow_75 hS
  replace h := s_no e5 h
  refine lv_tableOut (tgt := 76) hx hb dX9_toldNow_1 (by have ze1 := s_ne 0 (by exact e1) (by decide); have ze2 := s_ne 1 (by exact e2) (by decide); have ze3 := s_ne 2 (by exact e3) (by decide); have ze4 := s_ne 3 (by exact e4) (by decide); have ze5 := s_ne 4 (by exact e5) (by decide); omega) (by decide) ?_
  refine lv_aload_n hx hb dX9_toldNow_76 rfl (lv_at hl 0 rfl) ?_
  refine s_get (C := RX9) (T := TX9) (N := 19) hx hb hts inX9 hown hK hS 0 rfl rfl 0 (by decide) (hts (.fieldLink RX9 7 "InnTurnedModel" "all" "[I") (List.mem_of_getElem? (i := 1) rfl)) rfl rfl dX9_toldNow_77 ?_
  refine lv_aload_n hx hb dX9_toldNow_80 rfl (lv_at hl 0 rfl) ?_
  refine s_get (C := RX9) (T := TX9) (N := 19) hx hb hts inX9 hown hK hS 0 rfl rfl 0 (by decide) (hts (.fieldLink RX9 7 "InnTurnedModel" "all" "[I") (List.mem_of_getElem? (i := 1) rfl)) rfl rfl dX9_toldNow_81 ?_
  refine lv_bipush (v := (22 : Int32)) hx hb dX9_toldNow_84 (by decide) ?_
  refine s_iald hx hb hK hS 1 rfl rfl (by decide) dX9_toldNow_86 ?_
  obtain ⟨q7, hq7, h⟩ := s_bind h
  refine u_calliS (r := q7) (As := [.ref a_all, .int (all (Int32.toNatClampNeg (22 : Int32)))]) (rest := []) (wc := (wd_X9_wetOf cI cB cZ a_all 250 all)) hx hb hml hown hts hK hA hl hS (c_X9_wetOf l D cI cB cZ a_all 250 all (all (Int32.toNatClampNeg (22 : Int32))) _ _ hq7) (va_cwS 2 hts gX9_toldNow_X9_wetOf rfl rfl rfl (by decide +kernel) ⟨Nat.le_of_ble_eq_true rfl, Nat.le_of_ble_eq_true rfl⟩) [1] rfl rfl rfl rfl (Nat.le_of_ble_eq_true rfl) dX9_toldNow_87 (fun H locs hS => ?_)
  obtain rfl := Option.some.inj h
  exact hend _ _ _ _ dX9_toldNow_90 hS

-- InnTurnedModel.now(I)I
def wd_X9_now (cI cB cZ : ClassId) (a_this : Nat) (a_all : Nat) (a_kept : Nat) (a_isKept : Nat) (a_refused : Nat) (a_hand : Nat) (a_outs : Nat) (a_order0 : Nat) (a_bestOrder : Nat) (a_tells : Nat) (a_bytes : Nat) (a_anew : Nat) (a_values : Nat)  (all : (Nat → Int32)) (refused : (Nat → Int32)) (above : Int64) (below_ : Int64) (bytesLong : Int32) (tokenAt : Int32) (tokenLong : Int32) (token : Int32) (value : Int32) : va_W := [(a_this, .inr (6, [.ref a_all, .ref a_kept, .ref a_isKept, .ref a_refused, .long above, .long below_, .ref a_hand, .ref a_outs, .ref a_order0, .ref a_bestOrder, .ref a_tells, .ref a_bytes, .int bytesLong, .int tokenAt, .int tokenLong, .int token, .int value, .ref a_anew, .ref a_values])), (a_all, .inl (cI, 250, .inl all)), (a_refused, .inl (cI, 3, .inl refused))]
abbrev rm_X9_now : Room := { frames := 3, cells := 0, slots := 0, locals := 65 }
def f_X9_now  (all : (Nat → Int32)) (refused : (Nat → Int32)) (p1 : Int32) : Option (Int32 × (Nat → Int32)) := ((f_X9_in (Int32.toInt64 p1) (0 : Int64) (5 : Int64)).bind fun q1 => (if q1 = 0 then ((f_X9_bad refused (-1000 : Int32)).bind fun q3 => some (q3.1, q3.2)) else ((f_X9_toldNow all p1).bind fun q4 => some (q4, refused))))
set_option maxHeartbeats 4000000 in
set_option maxRecDepth 100000 in
theorem c_X9_now (l : Launch) (D : va_G) (cI cB cZ : ClassId) (a_this : Nat) (a_all : Nat) (a_kept : Nat) (a_isKept : Nat) (a_refused : Nat) (a_hand : Nat) (a_outs : Nat) (a_order0 : Nat) (a_bestOrder : Nat) (a_tells : Nat) (a_bytes : Nat) (a_anew : Nat) (a_values : Nat) (all : (Nat → Int32)) (refused : (Nat → Int32)) (above : Int64) (below_ : Int64) (bytesLong : Int32) (tokenAt : Int32) (tokenLong : Int32) (token : Int32) (value : Int32) (p1 : Int32) (rv : Int32 × (Nat → Int32)) (sz : Nat) (hf : f_X9_now all refused p1 = some rv) : Met l yX9_now wsX9_now rm_X9_now (sPc D vwCl (s_tys cI cB cZ) [.ref a_this, .int p1] (wd_X9_now cI cB cZ a_this a_all a_kept a_isKept a_refused a_hand a_outs a_order0 a_bestOrder a_tells a_bytes a_anew a_values all refused above below_ bytesLong tokenAt tokenLong token value) sz) (sQi D vwCl (wd_X9_now cI cB cZ a_this a_all a_kept a_isKept a_refused a_hand a_outs a_order0 a_bestOrder a_tells a_bytes a_anew a_values all refused above below_ bytesLong tokenAt tokenLong token value) (wd_X9_now cI cB cZ a_this a_all a_kept a_isKept a_refused a_hand a_outs a_order0 a_bestOrder a_tells a_bytes a_anew a_values all rv.2 above below_ bytesLong tokenAt tokenLong token value) sz rv.1) 0 0 (va_A (wd_X9_now cI cB cZ a_this a_all a_kept a_isKept a_refused a_hand a_outs a_order0 a_bestOrder a_tells a_bytes a_anew a_values all refused above below_ bytesLong tokenAt tokenLong token value) sz) := by
  refine s_enter_n (cc := cX9_now) (nL := 2) (r := rv.1) (by decide) rfl (Nat.le_of_ble_eq_true rfl) ?_
  intro p e s m args below meth c A Q C0 hend ls hl hS
  have h := hf
  clear hf
  replace hl : lv_has ls 2 [(0, .ref a_this), (1, .int p1)] := hl
  unfold f_X9_now at h
  obtain ⟨hx, hb, hml, hown, hts, hK, hA⟩ := id C0
  refine lv_iload_n hx hb dX9_now_0 rfl (lv_at hl 1 rfl) ?_
  refine lv_i2l (v := (Int32.toInt64 p1)) hx hb dX9_now_1 rfl ?_
  refine lv_lconst (v := (0 : Int64)) hx hb dX9_now_2 (by decide) ?_
  refine lv_ldc2 (v := (5 : Int64)) hx hb hown (hts (.constantLong RX9 63 (5)) (List.mem_of_getElem? (i := 1) rfl)) dX9_now_3 ?_
  obtain ⟨q1, hq1, h⟩ := s_bind h
  refine u_calliS (r := q1) (As := [.long (Int32.toInt64 p1), .long (0 : Int64), .long (5 : Int64)]) (rest := []) (wc := ([] : va_W)) hx hb hml hown hts hK hA hl hS (c_X9_in l D cI cB cZ (Int32.toInt64 p1) (0 : Int64) (5 : Int64) _ _ hq1) (va_cwS 3 hts gX9_now_X9_in rfl rfl rfl (by decide +kernel) ⟨Nat.le_of_ble_eq_true rfl, Nat.le_of_ble_eq_true rfl⟩) [] rfl rfl rfl rfl (Nat.le_of_ble_eq_true rfl) dX9_now_6 (fun H locs hS => ?_)
  refine lv_if_eq (tgt := 20) hx hb dX9_now_9 (by decide) (fun c2 => ?_) (fun c2 => ?_)
  · replace h := s_yes c2 h
    refine lv_aload_n hx hb dX9_now_20 rfl (lv_at hl 0 rfl) ?_
    refine lv_sipush (v := (-1000 : Int32)) hx hb dX9_now_21 (by decide) ?_
    obtain ⟨q3, hq3, h⟩ := s_bind h
    refine r_calliV (r := q3.1) (As := [.int (-1000 : Int32)]) (rest := []) (wc := (wd_X9_bad cI cB cZ a_this a_all a_kept a_isKept a_refused a_hand a_outs a_order0 a_bestOrder a_tells a_bytes a_anew a_values refused above below_ bytesLong tokenAt tokenLong token value)) (w1 := (wd_X9_bad cI cB cZ a_this a_all a_kept a_isKept a_refused a_hand a_outs a_order0 a_bestOrder a_tells a_bytes a_anew a_values q3.2 above below_ bytesLong tokenAt tokenLong token value)) (ws' := (wd_X9_now cI cB cZ a_this a_all a_kept a_isKept a_refused a_hand a_outs a_order0 a_bestOrder a_tells a_bytes a_anew a_values all q3.2 above below_ bytesLong tokenAt tokenLong token value)) hx hb hml hown hts hK hA hl hS (c_X9_bad l D cI cB cZ a_this a_all a_kept a_isKept a_refused a_hand a_outs a_order0 a_bestOrder a_tells a_bytes a_anew a_values refused above below_ bytesLong tokenAt tokenLong token value (-1000 : Int32) _ _ hq3) (cwV 1 hts gX9_now_X9_bad rfl rfl rfl (by decide +kernel) ⟨Nat.le_of_ble_eq_true rfl, Nat.le_of_ble_eq_true rfl⟩) 0 rfl rfl [0, 2] rfl rfl rfl [.inr 0, .inl 1, .inr 1] rfl rfl rfl rfl (Nat.le_of_ble_eq_true rfl) dX9_now_24 (fun H locs hS => ?_)
    obtain rfl := Option.some.inj h
    exact hend _ _ _ _ dX9_now_27 hS
  replace h := s_no c2 h
  refine lv_aload_n hx hb dX9_now_12 rfl (lv_at hl 0 rfl) ?_
  refine lv_iload_n hx hb dX9_now_13 rfl (lv_at hl 1 rfl) ?_
  obtain ⟨q4, hq4, h⟩ := s_bind h
  refine u_calliV (r := q4) (As := [.int p1]) (rest := []) (wc := (wd_X9_toldNow cI cB cZ a_this a_all a_kept a_isKept a_refused a_hand a_outs a_order0 a_bestOrder a_tells a_bytes a_anew a_values all above below_ bytesLong tokenAt tokenLong token value)) hx hb hml hown hts hK hA hl hS (c_X9_toldNow l D cI cB cZ a_this a_all a_kept a_isKept a_refused a_hand a_outs a_order0 a_bestOrder a_tells a_bytes a_anew a_values all above below_ bytesLong tokenAt tokenLong token value p1 _ _ hq4) (cwV 1 hts gX9_now_X9_toldNow rfl rfl rfl (by decide +kernel) ⟨Nat.le_of_ble_eq_true rfl, Nat.le_of_ble_eq_true rfl⟩) 0 rfl rfl [0, 1] rfl rfl rfl rfl (Nat.le_of_ble_eq_true rfl) dX9_now_14 (fun H locs hS => ?_)
  refine lv_goto (tgt := 27) hx hb dX9_now_17 (by decide) ?_
  obtain rfl := Option.some.inj h
  exact hend _ _ _ _ dX9_now_27 hS

-- InnTurnedModel.may()I
def wd_X9_may (cI cB cZ : ClassId) (a_this : Nat) (a_all : Nat) (a_kept : Nat) (a_isKept : Nat) (a_refused : Nat) (a_hand : Nat) (a_outs : Nat) (a_order0 : Nat) (a_bestOrder : Nat) (a_tells : Nat) (a_bytes : Nat) (a_anew : Nat) (a_values : Nat)  (all : (Nat → Int32)) (above : Int64) (below_ : Int64) (bytesLong : Int32) (tokenAt : Int32) (tokenLong : Int32) (token : Int32) (value : Int32) : va_W := [(a_this, .inr (6, [.ref a_all, .ref a_kept, .ref a_isKept, .ref a_refused, .long above, .long below_, .ref a_hand, .ref a_outs, .ref a_order0, .ref a_bestOrder, .ref a_tells, .ref a_bytes, .int bytesLong, .int tokenAt, .int tokenLong, .int token, .int value, .ref a_anew, .ref a_values])), (a_all, .inl (cI, 250, .inl all))]
abbrev rm_X9_may : Room := { frames := 3, cells := 0, slots := 0, locals := 67 }
set_option maxRecDepth 20000 in
theorem inX9_X9_may : ∀ w ∈ u_ws RX9 TX9 19, w ∈ wsX9_may := by decide +kernel
def f_X9_may_b31 (k_b4 : Int32 → Int32 → Option (Int32))  (all : (Nat → Int32))  (l2 : Int32) (t0 : Int32) (t1 : Int32) : Option (Int32) := k_b4 (t1 ||| t0) (l2 + (1 : Int32))
set_option maxHeartbeats 4000000 in
set_option maxRecDepth 100000 in
theorem w_X9_may_b31 {p : Program} {l : Launch} {e : Env} {s : State} {m : MethodId} {args : Array Value} {below : List Frame} {meth : Method} {c : Code} {A : Nat → Prop} {Q : State → Prop} {D : va_G} {cI cB cZ : ClassId} {a_this a_all a_kept a_isKept a_refused a_hand a_outs a_order0 a_bestOrder a_tells a_bytes a_anew a_values : Nat} {all : (Nat → Int32)} {above : Int64} {below_ : Int64} {bytesLong : Int32} {tokenAt : Int32} {tokenLong : Int32} {token : Int32} {value : Int32} (C0 : Cx p s m args c cX9_may 3 RX9 wsX9_may D (s_tys cI cB cZ) A) {rv : Int32} (hend : ∀ (pc : Nat) (H : Heap) (locs : List Loc) (ls : Array Slot), decode cX9_may pc = .ok (.ireturn, 1) → sS D vwCl A s.heap (wd_X9_may cI cB cZ a_this a_all a_kept a_isKept a_refused a_hand a_outs a_order0 a_bestOrder a_tells a_bytes a_anew a_values all above below_ bytesLong tokenAt tokenLong token value) H locs → W p l e rm_X9_may s m args below meth c H locs 0 0 Q (F0 m pc ls [.int rv])) (k_b4 : Int32 → Int32 → Option (Int32)) (hk_b4 : ∀  (l1 : Int32) (l2 : Int32) (H : Heap) (locs : List Loc) (ls : Array Slot), k_b4 l1 l2 = some rv → sS D vwCl A s.heap (wd_X9_may cI cB cZ a_this a_all a_kept a_isKept a_refused a_hand a_outs a_order0 a_bestOrder a_tells a_bytes a_anew a_values all above below_ bytesLong tokenAt tokenLong token value) H locs → lv_has ls 3 [(0, .ref a_this), (1, .int l1), (2, .int l2)] → W p l e rm_X9_may s m args below meth c H locs 0 0 Q (F0 m 4 ls [])) : ∀  (l2 : Int32) (t0 : Int32) (t1 : Int32) (H : Heap) (locs : List Loc) (ls : Array Slot), f_X9_may_b31 k_b4 all l2 t0 t1 = some rv → sS D vwCl A s.heap (wd_X9_may cI cB cZ a_this a_all a_kept a_isKept a_refused a_hand a_outs a_order0 a_bestOrder a_tells a_bytes a_anew a_values all above below_ bytesLong tokenAt tokenLong token value) H locs → lv_has ls 3 [(0, .ref a_this), (2, .int l2)] → W p l e rm_X9_may s m args below meth c H locs 0 0 Q (F0 m 31 ls [.int t0, .int t1]) := by
  obtain ⟨hx, hb, hml, hown, hts, hK, hA⟩ := id C0
  have inX9 : ∀ w ∈ u_ws RX9 TX9 19, w ∈ wsX9_may := inX9_X9_may
  intro l2 t0 t1 H locs ls h hS hl
  unfold f_X9_may_b31 at h
  refine lv_ior hx hb dX9_may_31 ?_
  refine lv_istore_n (lv' := [(1, .int (t1 ||| t0)), (0, .ref a_this), (2, .int l2)]) hx hb dX9_may_32 rfl hl (by decide) rfl (fun ls hl => ?_)
  refine lv_iinc (v := (l2 + (1 : Int32))) (lv' := [(2, .int (l2 + (1 : Int32))), (1, .int (t1 ||| t0)), (0, .ref a_this)]) hx hb dX9_may_33 hl (k := 2) rfl rfl (by decide) rfl (fun ls hl => ?_)
  refine lv_goto (tgt := 4) hx hb dX9_may_36 (by decide) ?_
  exact hk_b4 (t1 ||| t0) (l2 + (1 : Int32)) _ _ _ h hS (lv_sub hl [2, 1, 0] rfl)
def f_X9_may_b4  (all : (Nat → Int32)) : Nat → Int32 → Int32 → Option (Int32)
  | 0, _, _ => none
  | fu + 1, l1, l2 => ((f_X9_many all).bind fun q1 => (if q1 ≤ l2 then some (l1) else ((f_X9_letsIn 250 all l2).bind fun q3 => (if q3 = 0 then f_X9_may_b31 (f_X9_may_b4 all fu) all l2 (0 : Int32) l1 else f_X9_may_b31 (f_X9_may_b4 all fu) all l2 ((1 : Int32) <<< (l2 &&& 31)) l1))))
set_option maxHeartbeats 4000000 in
set_option maxRecDepth 100000 in
theorem w_X9_may_b4 {p : Program} {l : Launch} {e : Env} {s : State} {m : MethodId} {args : Array Value} {below : List Frame} {meth : Method} {c : Code} {A : Nat → Prop} {Q : State → Prop} {D : va_G} {cI cB cZ : ClassId} {a_this a_all a_kept a_isKept a_refused a_hand a_outs a_order0 a_bestOrder a_tells a_bytes a_anew a_values : Nat} {all : (Nat → Int32)} {above : Int64} {below_ : Int64} {bytesLong : Int32} {tokenAt : Int32} {tokenLong : Int32} {token : Int32} {value : Int32} (C0 : Cx p s m args c cX9_may 3 RX9 wsX9_may D (s_tys cI cB cZ) A) {rv : Int32} (hend : ∀ (pc : Nat) (H : Heap) (locs : List Loc) (ls : Array Slot), decode cX9_may pc = .ok (.ireturn, 1) → sS D vwCl A s.heap (wd_X9_may cI cB cZ a_this a_all a_kept a_isKept a_refused a_hand a_outs a_order0 a_bestOrder a_tells a_bytes a_anew a_values all above below_ bytesLong tokenAt tokenLong token value) H locs → W p l e rm_X9_may s m args below meth c H locs 0 0 Q (F0 m pc ls [.int rv])) : ∀ (fu : Nat)  (l1 : Int32) (l2 : Int32) (H : Heap) (locs : List Loc) (ls : Array Slot), f_X9_may_b4 all fu l1 l2 = some rv → sS D vwCl A s.heap (wd_X9_may cI cB cZ a_this a_all a_kept a_isKept a_refused a_hand a_outs a_order0 a_bestOrder a_tells a_bytes a_anew a_values all above below_ bytesLong tokenAt tokenLong token value) H locs → lv_has ls 3 [(0, .ref a_this), (1, .int l1), (2, .int l2)] → W p l e rm_X9_may s m args below meth c H locs 0 0 Q (F0 m 4 ls []) := by
  obtain ⟨hx, hb, hml, hown, hts, hK, hA⟩ := id C0
  have inX9 : ∀ w ∈ u_ws RX9 TX9 19, w ∈ wsX9_may := inX9_X9_may
  intro fu
  induction fu with
  | zero => intro l1 l2 H locs ls h; cases h
  | succ fu ih =>
    intro l1 l2 H locs ls h hS hl
    rw [f_X9_may_b4] at h
    refine lv_iload_n hx hb dX9_may_4 rfl (lv_at hl 2 rfl) ?_
    refine lv_aload_n hx hb dX9_may_5 rfl (lv_at hl 0 rfl) ?_
    obtain ⟨q1, hq1, h⟩ := s_bind h
    refine u_calliV (r := q1) (As := []) (rest := [.int l2]) (wc := (wd_X9_many cI cB cZ a_this a_all a_kept a_isKept a_refused a_hand a_outs a_order0 a_bestOrder a_tells a_bytes a_anew a_values all above below_ bytesLong tokenAt tokenLong token value)) hx hb hml hown hts hK hA hl hS (c_X9_many l D cI cB cZ a_this a_all a_kept a_isKept a_refused a_hand a_outs a_order0 a_bestOrder a_tells a_bytes a_anew a_values all above below_ bytesLong tokenAt tokenLong token value _ _ hq1) (cwV 0 hts gX9_may_X9_many rfl rfl rfl (by decide +kernel) ⟨Nat.le_of_ble_eq_true rfl, Nat.le_of_ble_eq_true rfl⟩) 0 rfl rfl [0, 1] rfl rfl rfl rfl (Nat.le_of_ble_eq_true rfl) dX9_may_6 (fun H locs hS => ?_)
    refine lv_icmp_ge (tgt := 39) hx hb dX9_may_9 (by decide) (fun c2 => ?_) (fun c2 => ?_)
    · replace h := s_yes c2 h
      refine lv_iload_n hx hb dX9_may_39 rfl (lv_at hl 1 rfl) ?_
      obtain rfl := Option.some.inj h
      exact hend _ _ _ _ dX9_may_40 hS
    replace h := s_no c2 h
    refine lv_iload_n hx hb dX9_may_12 rfl (lv_at hl 1 rfl) ?_
    refine lv_aload_n hx hb dX9_may_13 rfl (lv_at hl 0 rfl) ?_
    refine s_get (C := RX9) (T := TX9) (N := 19) hx hb hts inX9 hown hK hS 0 rfl rfl 0 (by decide) (hts (.fieldLink RX9 7 "InnTurnedModel" "all" "[I") (List.mem_of_getElem? (i := 1) rfl)) rfl rfl dX9_may_14 ?_
    refine lv_iload_n hx hb dX9_may_17 rfl (lv_at hl 2 rfl) ?_
    obtain ⟨q3, hq3, h⟩ := s_bind h
    refine u_calliS (r := q3) (As := [.ref a_all, .int l2]) (rest := [.int l1]) (wc := (wd_X9_letsIn cI cB cZ a_all 250 all)) hx hb hml hown hts hK hA hl hS (c_X9_letsIn l D cI cB cZ a_all 250 all l2 _ _ hq3) (va_cwS 2 hts gX9_may_X9_letsIn rfl rfl rfl (by decide +kernel) ⟨Nat.le_of_ble_eq_true rfl, Nat.le_of_ble_eq_true rfl⟩) [1] rfl rfl rfl rfl (Nat.le_of_ble_eq_true rfl) dX9_may_18 (fun H locs hS => ?_)
    refine lv_if_eq (tgt := 30) hx hb dX9_may_21 (by decide) (fun c4 => ?_) (fun c4 => ?_)
    · replace h := s_yes c4 h
      refine lv_iconst (v := (0 : Int32)) hx hb dX9_may_30 (by decide) ?_
      exact w_X9_may_b31 C0 hend (f_X9_may_b4 all fu) ih l2 (0 : Int32) l1 _ _ _ h hS (lv_sub hl [0, 2] rfl)
    replace h := s_no c4 h
    refine lv_iconst (v := (1 : Int32)) hx hb dX9_may_24 (by decide) ?_
    refine lv_iload_n hx hb dX9_may_25 rfl (lv_at hl 2 rfl) ?_
    refine lv_ishl hx hb dX9_may_26 ?_
    refine lv_goto (tgt := 31) hx hb dX9_may_27 (by decide) ?_
    exact w_X9_may_b31 C0 hend (f_X9_may_b4 all fu) ih l2 ((1 : Int32) <<< (l2 &&& 31)) l1 _ _ _ h hS (lv_sub hl [0, 2] rfl)
def f_X9_may  (all : (Nat → Int32))  : Option (Int32) := f_X9_may_b4  all s_fuel (0 : Int32) (0 : Int32)
set_option maxHeartbeats 4000000 in
set_option maxRecDepth 100000 in
theorem c_X9_may (l : Launch) (D : va_G) (cI cB cZ : ClassId) (a_this : Nat) (a_all : Nat) (a_kept : Nat) (a_isKept : Nat) (a_refused : Nat) (a_hand : Nat) (a_outs : Nat) (a_order0 : Nat) (a_bestOrder : Nat) (a_tells : Nat) (a_bytes : Nat) (a_anew : Nat) (a_values : Nat) (all : (Nat → Int32)) (above : Int64) (below_ : Int64) (bytesLong : Int32) (tokenAt : Int32) (tokenLong : Int32) (token : Int32) (value : Int32) (rv : Int32) (sz : Nat) (hf : f_X9_may all = some rv) : Met l yX9_may wsX9_may rm_X9_may (sPc D vwCl (s_tys cI cB cZ) [.ref a_this] (wd_X9_may cI cB cZ a_this a_all a_kept a_isKept a_refused a_hand a_outs a_order0 a_bestOrder a_tells a_bytes a_anew a_values all above below_ bytesLong tokenAt tokenLong token value) sz) (sQi D vwCl (wd_X9_may cI cB cZ a_this a_all a_kept a_isKept a_refused a_hand a_outs a_order0 a_bestOrder a_tells a_bytes a_anew a_values all above below_ bytesLong tokenAt tokenLong token value) (wd_X9_may cI cB cZ a_this a_all a_kept a_isKept a_refused a_hand a_outs a_order0 a_bestOrder a_tells a_bytes a_anew a_values all above below_ bytesLong tokenAt tokenLong token value) sz rv) 0 0 (va_A (wd_X9_may cI cB cZ a_this a_all a_kept a_isKept a_refused a_hand a_outs a_order0 a_bestOrder a_tells a_bytes a_anew a_values all above below_ bytesLong tokenAt tokenLong token value) sz) := by
  refine s_enter_n (cc := cX9_may) (nL := 3) (r := rv) (by decide) rfl (Nat.le_of_ble_eq_true rfl) ?_
  intro p e s m args below meth c A Q C0 hend ls hl hS
  have h := hf
  clear hf
  replace hl : lv_has ls 3 [(0, .ref a_this)] := hl
  unfold f_X9_may at h
  obtain ⟨hx, hb, hml, hown, hts, hK, hA⟩ := id C0
  have inX9 : ∀ w ∈ u_ws RX9 TX9 19, w ∈ wsX9_may := inX9_X9_may
  refine lv_iconst (v := (0 : Int32)) hx hb dX9_may_0 (by decide) ?_
  refine lv_istore_n (lv' := [(1, .int (0 : Int32)), (0, .ref a_this)]) hx hb dX9_may_1 rfl hl (by decide) rfl (fun ls hl => ?_)
  refine lv_iconst (v := (0 : Int32)) hx hb dX9_may_2 (by decide) ?_
  refine lv_istore_n (lv' := [(2, .int (0 : Int32)), (1, .int (0 : Int32)), (0, .ref a_this)]) hx hb dX9_may_3 rfl hl (by decide) rfl (fun ls hl => ?_)
  exact w_X9_may_b4 C0 hend  s_fuel (0 : Int32) (0 : Int32) _ _ _ h hS (lv_sub hl [2, 1, 0] rfl)

-- InnTurnedModel.layHand()V
def wd_X9_layHand (cI cB cZ : ClassId) (a_this : Nat) (a_all : Nat) (a_kept : Nat) (a_isKept : Nat) (a_refused : Nat) (a_hand : Nat) (a_outs : Nat) (a_order0 : Nat) (a_bestOrder : Nat) (a_tells : Nat) (a_bytes : Nat) (a_anew : Nat) (a_values : Nat)  (all : (Nat → Int32)) (above : Int64) (below_ : Int64) (hand : (Nat → Int32)) (bytesLong : Int32) (tokenAt : Int32) (tokenLong : Int32) (token : Int32) (value : Int32) : va_W := [(a_this, .inr (6, [.ref a_all, .ref a_kept, .ref a_isKept, .ref a_refused, .long above, .long below_, .ref a_hand, .ref a_outs, .ref a_order0, .ref a_bestOrder, .ref a_tells, .ref a_bytes, .int bytesLong, .int tokenAt, .int tokenLong, .int token, .int value, .ref a_anew, .ref a_values])), (a_all, .inl (cI, 250, .inl all)), (a_hand, .inl (cI, 38, .inl hand))]
abbrev rm_X9_layHand : Room := { frames := 0, cells := 0, slots := 0, locals := 0 }
set_option maxRecDepth 20000 in
theorem inX9_X9_layHand : ∀ w ∈ u_ws RX9 TX9 19, w ∈ wsX9_layHand := by decide +kernel
def f_X9_layHand_b2  (all : (Nat → Int32)) : Nat → (Nat → Int32) → Int32 → Option ((Nat → Int32))
  | 0, _, _ => none
  | fu + 1, hand, l1 => (if (38 : Int32) ≤ l1 then some (hand) else (if ¬ (l1 < 0 ∨ 250 ≤ (Int32.toNatClampNeg l1)) then (if ¬ (l1 < 0 ∨ 38 ≤ (Int32.toNatClampNeg l1)) then (f_X9_layHand_b2 all fu) (upd hand (Int32.toNatClampNeg l1) (all (Int32.toNatClampNeg l1))) (l1 + (1 : Int32)) else none) else none))
set_option maxHeartbeats 4000000 in
set_option maxRecDepth 100000 in
theorem w_X9_layHand_b2 {p : Program} {l : Launch} {e : Env} {s : State} {m : MethodId} {args : Array Value} {below : List Frame} {meth : Method} {c : Code} {A : Nat → Prop} {Q : State → Prop} {D : va_G} {cI cB cZ : ClassId} {a_this a_all a_kept a_isKept a_refused a_hand a_outs a_order0 a_bestOrder a_tells a_bytes a_anew a_values : Nat} {all : (Nat → Int32)} {above : Int64} {below_ : Int64} {bytesLong : Int32} {tokenAt : Int32} {tokenLong : Int32} {token : Int32} {value : Int32} (C0 : Cx p s m args c cX9_layHand 2 RX9 wsX9_layHand D (s_tys cI cB cZ) A) {rv : (Nat → Int32)} (hend : ∀ (pc : Nat) (H : Heap) (locs : List Loc) (ls : Array Slot), decode cX9_layHand pc = .ok (.return_, 1) → sS D vwCl A s.heap (wd_X9_layHand cI cB cZ a_this a_all a_kept a_isKept a_refused a_hand a_outs a_order0 a_bestOrder a_tells a_bytes a_anew a_values all above below_ rv bytesLong tokenAt tokenLong token value) H locs → W p l e rm_X9_layHand s m args below meth c H locs 0 0 Q (F0 m pc ls [])) : ∀ (fu : Nat) (hand : (Nat → Int32)) (l1 : Int32) (H : Heap) (locs : List Loc) (ls : Array Slot), f_X9_layHand_b2 all fu hand l1 = some rv → sS D vwCl A s.heap (wd_X9_layHand cI cB cZ a_this a_all a_kept a_isKept a_refused a_hand a_outs a_order0 a_bestOrder a_tells a_bytes a_anew a_values all above below_ hand bytesLong tokenAt tokenLong token value) H locs → lv_has ls 2 [(0, .ref a_this), (1, .int l1)] → W p l e rm_X9_layHand s m args below meth c H locs 0 0 Q (F0 m 2 ls []) := by
  obtain ⟨hx, hb, hml, hown, hts, hK, hA⟩ := id C0
  have inX9 : ∀ w ∈ u_ws RX9 TX9 19, w ∈ wsX9_layHand := inX9_X9_layHand
  intro fu
  induction fu with
  | zero => intro hand l1 H locs ls h; cases h
  | succ fu ih =>
    intro hand l1 H locs ls h hS hl
    rw [f_X9_layHand_b2] at h
    refine lv_iload_n hx hb dX9_layHand_2 rfl (lv_at hl 1 rfl) ?_
    refine lv_bipush (v := (38 : Int32)) hx hb dX9_layHand_3 (by decide) ?_
    refine lv_icmp_ge (tgt := 26) hx hb dX9_layHand_5 (by decide) (fun c1 => ?_) (fun c1 => ?_)
    · replace h := s_yes c1 h
      obtain rfl := Option.some.inj h
      exact hend _ _ _ _ dX9_layHand_26 hS
    replace h := s_no c1 h
    refine lv_aload_n hx hb dX9_layHand_8 rfl (lv_at hl 0 rfl) ?_
    refine s_get (C := RX9) (T := TX9) (N := 19) hx hb hts inX9 hown hK hS 0 rfl rfl 6 (by decide) (hts (.fieldLink RX9 27 "InnTurnedModel" "hand" "[I") (List.mem_of_getElem? (i := 1) rfl)) rfl rfl dX9_layHand_9 ?_
    refine lv_iload_n hx hb dX9_layHand_12 rfl (lv_at hl 1 rfl) ?_
    refine lv_aload_n hx hb dX9_layHand_13 rfl (lv_at hl 0 rfl) ?_
    refine s_get (C := RX9) (T := TX9) (N := 19) hx hb hts inX9 hown hK hS 0 rfl rfl 0 (by decide) (hts (.fieldLink RX9 7 "InnTurnedModel" "all" "[I") (List.mem_of_getElem? (i := 2) rfl)) rfl rfl dX9_layHand_14 ?_
    refine lv_iload_n hx hb dX9_layHand_17 rfl (lv_at hl 1 rfl) ?_
    obtain ⟨g2, h⟩ := s_guard h
    refine s_iald hx hb hK hS 1 rfl rfl g2 dX9_layHand_18 ?_
    obtain ⟨g3, h⟩ := s_guard h
    refine s_iast (ws' := (wd_X9_layHand cI cB cZ a_this a_all a_kept a_isKept a_refused a_hand a_outs a_order0 a_bestOrder a_tells a_bytes a_anew a_values all above below_ (upd hand (Int32.toNatClampNeg l1) (all (Int32.toNatClampNeg l1))) bytesLong tokenAt tokenLong token value)) hx hb hK hS 2 rfl rfl g3 rfl dX9_layHand_19 (fun H locs hS => ?_)
    refine lv_iinc (v := (l1 + (1 : Int32))) (lv' := [(1, .int (l1 + (1 : Int32))), (0, .ref a_this)]) hx hb dX9_layHand_20 hl (k := 1) rfl rfl (by decide) rfl (fun ls hl => ?_)
    refine lv_goto (tgt := 2) hx hb dX9_layHand_23 (by decide) ?_
    exact ih (upd hand (Int32.toNatClampNeg l1) (all (Int32.toNatClampNeg l1))) (l1 + (1 : Int32)) _ _ _ h hS (lv_sub hl [1, 0] rfl)
def f_X9_layHand  (all : (Nat → Int32)) (hand : (Nat → Int32)) : Option ((Nat → Int32)) := f_X9_layHand_b2  all s_fuel hand (0 : Int32)
set_option maxHeartbeats 4000000 in
set_option maxRecDepth 100000 in
theorem c_X9_layHand (l : Launch) (D : va_G) (cI cB cZ : ClassId) (a_this : Nat) (a_all : Nat) (a_kept : Nat) (a_isKept : Nat) (a_refused : Nat) (a_hand : Nat) (a_outs : Nat) (a_order0 : Nat) (a_bestOrder : Nat) (a_tells : Nat) (a_bytes : Nat) (a_anew : Nat) (a_values : Nat) (all : (Nat → Int32)) (above : Int64) (below_ : Int64) (hand : (Nat → Int32)) (bytesLong : Int32) (tokenAt : Int32) (tokenLong : Int32) (token : Int32) (value : Int32) (rv : (Nat → Int32)) (sz : Nat) (hf : f_X9_layHand all hand = some rv) : Met l yX9_layHand wsX9_layHand rm_X9_layHand (sPc D vwCl (s_tys cI cB cZ) [.ref a_this] (wd_X9_layHand cI cB cZ a_this a_all a_kept a_isKept a_refused a_hand a_outs a_order0 a_bestOrder a_tells a_bytes a_anew a_values all above below_ hand bytesLong tokenAt tokenLong token value) sz) (sQv D vwCl (wd_X9_layHand cI cB cZ a_this a_all a_kept a_isKept a_refused a_hand a_outs a_order0 a_bestOrder a_tells a_bytes a_anew a_values all above below_ hand bytesLong tokenAt tokenLong token value) (wd_X9_layHand cI cB cZ a_this a_all a_kept a_isKept a_refused a_hand a_outs a_order0 a_bestOrder a_tells a_bytes a_anew a_values all above below_ rv bytesLong tokenAt tokenLong token value) sz) 0 0 (va_A (wd_X9_layHand cI cB cZ a_this a_all a_kept a_isKept a_refused a_hand a_outs a_order0 a_bestOrder a_tells a_bytes a_anew a_values all above below_ hand bytesLong tokenAt tokenLong token value) sz) := by
  refine s_enter_v (cc := cX9_layHand) (nL := 2) (by decide) rfl (Nat.le_of_ble_eq_true rfl) ?_
  intro p e s m args below meth c A Q C0 hend ls hl hS
  have h := hf
  clear hf
  replace hl : lv_has ls 2 [(0, .ref a_this)] := hl
  unfold f_X9_layHand at h
  obtain ⟨hx, hb, hml, hown, hts, hK, hA⟩ := id C0
  have inX9 : ∀ w ∈ u_ws RX9 TX9 19, w ∈ wsX9_layHand := inX9_X9_layHand
  refine lv_iconst (v := (0 : Int32)) hx hb dX9_layHand_0 (by decide) ?_
  refine lv_istore_n (lv' := [(1, .int (0 : Int32)), (0, .ref a_this)]) hx hb dX9_layHand_1 rfl hl (by decide) rfl (fun ls hl => ?_)
  exact w_X9_layHand_b2 C0 hend  s_fuel hand (0 : Int32) _ _ _ h hS (lv_sub hl [1, 0] rfl)

-- InnTurnedModel.when(I)I
def wd_X9_when (cI cB cZ : ClassId) (a_this : Nat) (a_all : Nat) (a_kept : Nat) (a_isKept : Nat) (a_refused : Nat) (a_hand : Nat) (a_outs : Nat) (a_order0 : Nat) (a_bestOrder : Nat) (a_tells : Nat) (a_bytes : Nat) (a_anew : Nat) (a_values : Nat)  (all : (Nat → Int32)) (refused : (Nat → Int32)) (above : Int64) (below_ : Int64) (hand : (Nat → Int32)) (bytesLong : Int32) (tokenAt : Int32) (tokenLong : Int32) (token : Int32) (value : Int32) : va_W := [(a_this, .inr (6, [.ref a_all, .ref a_kept, .ref a_isKept, .ref a_refused, .long above, .long below_, .ref a_hand, .ref a_outs, .ref a_order0, .ref a_bestOrder, .ref a_tells, .ref a_bytes, .int bytesLong, .int tokenAt, .int tokenLong, .int token, .int value, .ref a_anew, .ref a_values])), (a_all, .inl (cI, 250, .inl all)), (a_refused, .inl (cI, 3, .inl refused)), (a_hand, .inl (cI, 38, .inl hand))]
abbrev rm_X9_when : Room := { frames := 3, cells := 0, slots := 0, locals := 67 }
set_option maxRecDepth 20000 in
theorem inX9_X9_when : ∀ w ∈ u_ws RX9 TX9 19, w ∈ wsX9_when := by decide +kernel
def f_X9_when_b21  (all : (Nat → Int32)) : Nat → (Nat → Int32) → (Nat → Int32) → Int32 → Int32 → Option (Int32 × (Nat → Int32) × (Nat → Int32))
  | 0, _, _, _, _ => none
  | fu + 1, refused, hand, l1, l2 => (if (60 : Int32) < l2 then some ((-1 : Int32), refused, hand) else ((f_X9_letsIn 38 hand l1).bind fun q2 => (if q2 = 0 then (f_X9_when_b21 all fu) refused (upd (upd hand (Int32.toNatClampNeg (22 : Int32)) ((hand (Int32.toNatClampNeg (22 : Int32))) + (1 : Int32))) (Int32.toNatClampNeg (20 : Int32)) (0 : Int32)) l1 (l2 + (1 : Int32)) else some (l2, refused, hand))))
set_option maxHeartbeats 4000000 in
set_option maxRecDepth 100000 in
theorem w_X9_when_b21 {p : Program} {l : Launch} {e : Env} {s : State} {m : MethodId} {args : Array Value} {below : List Frame} {meth : Method} {c : Code} {A : Nat → Prop} {Q : State → Prop} {D : va_G} {cI cB cZ : ClassId} {a_this a_all a_kept a_isKept a_refused a_hand a_outs a_order0 a_bestOrder a_tells a_bytes a_anew a_values : Nat} {all : (Nat → Int32)} {above : Int64} {below_ : Int64} {bytesLong : Int32} {tokenAt : Int32} {tokenLong : Int32} {token : Int32} {value : Int32} (C0 : Cx p s m args c cX9_when 3 RX9 wsX9_when D (s_tys cI cB cZ) A) {rv : Int32 × (Nat → Int32) × (Nat → Int32)} (hend : ∀ (pc : Nat) (H : Heap) (locs : List Loc) (ls : Array Slot), decode cX9_when pc = .ok (.ireturn, 1) → sS D vwCl A s.heap (wd_X9_when cI cB cZ a_this a_all a_kept a_isKept a_refused a_hand a_outs a_order0 a_bestOrder a_tells a_bytes a_anew a_values all rv.2.1 above below_ rv.2.2 bytesLong tokenAt tokenLong token value) H locs → W p l e rm_X9_when s m args below meth c H locs 0 0 Q (F0 m pc ls [.int rv.1])) : ∀ (fu : Nat) (refused : (Nat → Int32)) (hand : (Nat → Int32)) (l1 : Int32) (l2 : Int32) (H : Heap) (locs : List Loc) (ls : Array Slot), f_X9_when_b21 all fu refused hand l1 l2 = some rv → sS D vwCl A s.heap (wd_X9_when cI cB cZ a_this a_all a_kept a_isKept a_refused a_hand a_outs a_order0 a_bestOrder a_tells a_bytes a_anew a_values all refused above below_ hand bytesLong tokenAt tokenLong token value) H locs → lv_has ls 3 [(0, .ref a_this), (1, .int l1), (2, .int l2)] → W p l e rm_X9_when s m args below meth c H locs 0 0 Q (F0 m 21 ls []) := by
  obtain ⟨hx, hb, hml, hown, hts, hK, hA⟩ := id C0
  have inX9 : ∀ w ∈ u_ws RX9 TX9 19, w ∈ wsX9_when := inX9_X9_when
  intro fu
  induction fu with
  | zero => intro refused hand l1 l2 H locs ls h; cases h
  | succ fu ih =>
    intro refused hand l1 l2 H locs ls h hS hl
    rw [f_X9_when_b21] at h
    refine lv_iload_n hx hb dX9_when_21 rfl (lv_at hl 2 rfl) ?_
    refine lv_bipush (v := (60 : Int32)) hx hb dX9_when_22 (by decide) ?_
    refine lv_icmp_gt (tgt := 65) hx hb dX9_when_24 (by decide) (fun c1 => ?_) (fun c1 => ?_)
    · replace h := s_yes c1 h
      refine lv_iconst (v := (-1 : Int32)) hx hb dX9_when_65 (by decide) ?_
      obtain rfl := Option.some.inj h
      exact hend _ _ _ _ dX9_when_66 hS
    replace h := s_no c1 h
    refine lv_aload_n hx hb dX9_when_27 rfl (lv_at hl 0 rfl) ?_
    refine s_get (C := RX9) (T := TX9) (N := 19) hx hb hts inX9 hown hK hS 0 rfl rfl 6 (by decide) (hts (.fieldLink RX9 27 "InnTurnedModel" "hand" "[I") (List.mem_of_getElem? (i := 1) rfl)) rfl rfl dX9_when_28 ?_
    refine lv_iload_n hx hb dX9_when_31 rfl (lv_at hl 1 rfl) ?_
    obtain ⟨q2, hq2, h⟩ := s_bind h
    refine u_calliS (r := q2) (As := [.ref a_hand, .int l1]) (rest := []) (wc := (wd_X9_letsIn cI cB cZ a_hand 38 hand)) hx hb hml hown hts hK hA hl hS (c_X9_letsIn l D cI cB cZ a_hand 38 hand l1 _ _ hq2) (va_cwS 2 hts gX9_when_X9_letsIn rfl rfl rfl (by decide +kernel) ⟨Nat.le_of_ble_eq_true rfl, Nat.le_of_ble_eq_true rfl⟩) [3] rfl rfl rfl rfl (Nat.le_of_ble_eq_true rfl) dX9_when_32 (fun H locs hS => ?_)
    refine lv_if_eq (tgt := 40) hx hb dX9_when_35 (by decide) (fun c3 => ?_) (fun c3 => ?_)
    · replace h := s_yes c3 h
      refine lv_aload_n hx hb dX9_when_40 rfl (lv_at hl 0 rfl) ?_
      refine s_get (C := RX9) (T := TX9) (N := 19) hx hb hts inX9 hown hK hS 0 rfl rfl 6 (by decide) (hts (.fieldLink RX9 27 "InnTurnedModel" "hand" "[I") (List.mem_of_getElem? (i := 1) rfl)) rfl rfl dX9_when_41 ?_
      refine lv_bipush (v := (22 : Int32)) hx hb dX9_when_44 (by decide) ?_
      refine lv_dup2_11 hx hb dX9_when_46 rfl rfl ?_
      refine s_iald hx hb hK hS 3 rfl rfl (by decide) dX9_when_47 ?_
      refine lv_iconst (v := (1 : Int32)) hx hb dX9_when_48 (by decide) ?_
      refine lv_iadd hx hb dX9_when_49 ?_
      refine s_iast (ws' := (wd_X9_when cI cB cZ a_this a_all a_kept a_isKept a_refused a_hand a_outs a_order0 a_bestOrder a_tells a_bytes a_anew a_values all refused above below_ (upd hand (Int32.toNatClampNeg (22 : Int32)) ((hand (Int32.toNatClampNeg (22 : Int32))) + (1 : Int32))) bytesLong tokenAt tokenLong token value)) hx hb hK hS 3 rfl rfl (by decide) rfl dX9_when_50 (fun H locs hS => ?_)
      refine lv_aload_n hx hb dX9_when_51 rfl (lv_at hl 0 rfl) ?_
      refine s_get (C := RX9) (T := TX9) (N := 19) hx hb hts inX9 hown hK hS 0 rfl rfl 6 (by decide) (hts (.fieldLink RX9 27 "InnTurnedModel" "hand" "[I") (List.mem_of_getElem? (i := 1) rfl)) rfl rfl dX9_when_52 ?_
      refine lv_bipush (v := (20 : Int32)) hx hb dX9_when_55 (by decide) ?_
      refine lv_iconst (v := (0 : Int32)) hx hb dX9_when_57 (by decide) ?_
      refine s_iast (ws' := (wd_X9_when cI cB cZ a_this a_all a_kept a_isKept a_refused a_hand a_outs a_order0 a_bestOrder a_tells a_bytes a_anew a_values all refused above below_ (upd (upd hand (Int32.toNatClampNeg (22 : Int32)) ((hand (Int32.toNatClampNeg (22 : Int32))) + (1 : Int32))) (Int32.toNatClampNeg (20 : Int32)) (0 : Int32)) bytesLong tokenAt tokenLong token value)) hx hb hK hS 3 rfl rfl (by decide) rfl dX9_when_58 (fun H locs hS => ?_)
      refine lv_iinc (v := (l2 + (1 : Int32))) (lv' := [(2, .int (l2 + (1 : Int32))), (0, .ref a_this), (1, .int l1)]) hx hb dX9_when_59 hl (k := 2) rfl rfl (by decide) rfl (fun ls hl => ?_)
      refine lv_goto (tgt := 21) hx hb dX9_when_62 (by decide) ?_
      exact ih refused (upd (upd hand (Int32.toNatClampNeg (22 : Int32)) ((hand (Int32.toNatClampNeg (22 : Int32))) + (1 : Int32))) (Int32.toNatClampNeg (20 : Int32)) (0 : Int32)) l1 (l2 + (1 : Int32)) _ _ _ h hS (lv_sub hl [1, 2, 0] rfl)
    replace h := s_no c3 h
    refine lv_iload_n hx hb dX9_when_38 rfl (lv_at hl 2 rfl) ?_
    obtain rfl := Option.some.inj h
    exact hend _ _ _ _ dX9_when_39 hS
def f_X9_when  (all : (Nat → Int32)) (refused : (Nat → Int32)) (hand : (Nat → Int32)) (p1 : Int32) : Option (Int32 × (Nat → Int32) × (Nat → Int32)) := ((f_X9_isOne all p1).bind fun q4 => (if q4 = 0 then ((f_X9_bad refused (-2 : Int32)).bind fun q7 => some (q7.1, q7.2, hand)) else ((f_X9_layHand all hand).bind fun q6 => f_X9_when_b21  all s_fuel refused q6 p1 (0 : Int32))))
set_option maxHeartbeats 4000000 in
set_option maxRecDepth 100000 in
theorem c_X9_when (l : Launch) (D : va_G) (cI cB cZ : ClassId) (a_this : Nat) (a_all : Nat) (a_kept : Nat) (a_isKept : Nat) (a_refused : Nat) (a_hand : Nat) (a_outs : Nat) (a_order0 : Nat) (a_bestOrder : Nat) (a_tells : Nat) (a_bytes : Nat) (a_anew : Nat) (a_values : Nat) (all : (Nat → Int32)) (refused : (Nat → Int32)) (above : Int64) (below_ : Int64) (hand : (Nat → Int32)) (bytesLong : Int32) (tokenAt : Int32) (tokenLong : Int32) (token : Int32) (value : Int32) (p1 : Int32) (rv : Int32 × (Nat → Int32) × (Nat → Int32)) (sz : Nat) (hf : f_X9_when all refused hand p1 = some rv) : Met l yX9_when wsX9_when rm_X9_when (sPc D vwCl (s_tys cI cB cZ) [.ref a_this, .int p1] (wd_X9_when cI cB cZ a_this a_all a_kept a_isKept a_refused a_hand a_outs a_order0 a_bestOrder a_tells a_bytes a_anew a_values all refused above below_ hand bytesLong tokenAt tokenLong token value) sz) (sQi D vwCl (wd_X9_when cI cB cZ a_this a_all a_kept a_isKept a_refused a_hand a_outs a_order0 a_bestOrder a_tells a_bytes a_anew a_values all refused above below_ hand bytesLong tokenAt tokenLong token value) (wd_X9_when cI cB cZ a_this a_all a_kept a_isKept a_refused a_hand a_outs a_order0 a_bestOrder a_tells a_bytes a_anew a_values all rv.2.1 above below_ rv.2.2 bytesLong tokenAt tokenLong token value) sz rv.1) 0 0 (va_A (wd_X9_when cI cB cZ a_this a_all a_kept a_isKept a_refused a_hand a_outs a_order0 a_bestOrder a_tells a_bytes a_anew a_values all refused above below_ hand bytesLong tokenAt tokenLong token value) sz) := by
  refine s_enter_n (cc := cX9_when) (nL := 3) (r := rv.1) (by decide) rfl (Nat.le_of_ble_eq_true rfl) ?_
  intro p e s m args below meth c A Q C0 hend ls hl hS
  have h := hf
  clear hf
  replace hl : lv_has ls 3 [(0, .ref a_this), (1, .int p1)] := hl
  unfold f_X9_when at h
  obtain ⟨hx, hb, hml, hown, hts, hK, hA⟩ := id C0
  have inX9 : ∀ w ∈ u_ws RX9 TX9 19, w ∈ wsX9_when := inX9_X9_when
  refine lv_aload_n hx hb dX9_when_0 rfl (lv_at hl 0 rfl) ?_
  refine lv_iload_n hx hb dX9_when_1 rfl (lv_at hl 1 rfl) ?_
  obtain ⟨q4, hq4, h⟩ := s_bind h
  refine u_calliV (r := q4) (As := [.int p1]) (rest := []) (wc := (wd_X9_isOne cI cB cZ a_this a_all a_kept a_isKept a_refused a_hand a_outs a_order0 a_bestOrder a_tells a_bytes a_anew a_values all above below_ bytesLong tokenAt tokenLong token value)) hx hb hml hown hts hK hA hl hS (c_X9_isOne l D cI cB cZ a_this a_all a_kept a_isKept a_refused a_hand a_outs a_order0 a_bestOrder a_tells a_bytes a_anew a_values all above below_ bytesLong tokenAt tokenLong token value p1 _ _ hq4) (cwV 1 hts gX9_when_X9_isOne rfl rfl rfl (by decide +kernel) ⟨Nat.le_of_ble_eq_true rfl, Nat.le_of_ble_eq_true rfl⟩) 0 rfl rfl [0, 1] rfl rfl rfl rfl (Nat.le_of_ble_eq_true rfl) dX9_when_2 (fun H locs hS => ?_)
  refine lv_if_ne (tgt := 15) hx hb dX9_when_5 (by decide) (fun c5 => ?_) (fun c5 => ?_)
  · replace h := s_no c5 h
    refine lv_aload_n hx hb dX9_when_15 rfl (lv_at hl 0 rfl) ?_
    obtain ⟨q6, hq6, h⟩ := s_bind h
    refine r_callvV (As := []) (rest := []) (wc := (wd_X9_layHand cI cB cZ a_this a_all a_kept a_isKept a_refused a_hand a_outs a_order0 a_bestOrder a_tells a_bytes a_anew a_values all above below_ hand bytesLong tokenAt tokenLong token value)) (w1 := (wd_X9_layHand cI cB cZ a_this a_all a_kept a_isKept a_refused a_hand a_outs a_order0 a_bestOrder a_tells a_bytes a_anew a_values all above below_ q6 bytesLong tokenAt tokenLong token value)) (ws' := (wd_X9_when cI cB cZ a_this a_all a_kept a_isKept a_refused a_hand a_outs a_order0 a_bestOrder a_tells a_bytes a_anew a_values all refused above below_ q6 bytesLong tokenAt tokenLong token value)) hx hb hml hown hts hK hA hl hS (c_X9_layHand l D cI cB cZ a_this a_all a_kept a_isKept a_refused a_hand a_outs a_order0 a_bestOrder a_tells a_bytes a_anew a_values all above below_ hand bytesLong tokenAt tokenLong token value _ _ hq6) (cwV 0 hts gX9_when_X9_layHand rfl rfl rfl (by decide +kernel) ⟨Nat.le_of_ble_eq_true rfl, Nat.le_of_ble_eq_true rfl⟩) 0 rfl rfl [0, 1, 3] rfl rfl rfl [.inr 0, .inr 1, .inl 2, .inr 2] rfl rfl rfl rfl (Nat.le_of_ble_eq_true rfl) dX9_when_16 (fun H locs hS => ?_)
    refine lv_iconst (v := (0 : Int32)) hx hb dX9_when_19 (by decide) ?_
    refine lv_istore_n (lv' := [(2, .int (0 : Int32)), (0, .ref a_this), (1, .int p1)]) hx hb dX9_when_20 rfl hl (by decide) rfl (fun ls hl => ?_)
    exact w_X9_when_b21 C0 hend  s_fuel refused q6 p1 (0 : Int32) _ _ _ h hS (lv_sub hl [1, 2, 0] rfl)
  replace h := s_yes c5 h
  refine lv_aload_n hx hb dX9_when_8 rfl (lv_at hl 0 rfl) ?_
  refine lv_bipush (v := (-2 : Int32)) hx hb dX9_when_9 (by decide) ?_
  obtain ⟨q7, hq7, h⟩ := s_bind h
  refine r_calliV (r := q7.1) (As := [.int (-2 : Int32)]) (rest := []) (wc := (wd_X9_bad cI cB cZ a_this a_all a_kept a_isKept a_refused a_hand a_outs a_order0 a_bestOrder a_tells a_bytes a_anew a_values refused above below_ bytesLong tokenAt tokenLong token value)) (w1 := (wd_X9_bad cI cB cZ a_this a_all a_kept a_isKept a_refused a_hand a_outs a_order0 a_bestOrder a_tells a_bytes a_anew a_values q7.2 above below_ bytesLong tokenAt tokenLong token value)) (ws' := (wd_X9_when cI cB cZ a_this a_all a_kept a_isKept a_refused a_hand a_outs a_order0 a_bestOrder a_tells a_bytes a_anew a_values all q7.2 above below_ hand bytesLong tokenAt tokenLong token value)) hx hb hml hown hts hK hA hl hS (c_X9_bad l D cI cB cZ a_this a_all a_kept a_isKept a_refused a_hand a_outs a_order0 a_bestOrder a_tells a_bytes a_anew a_values refused above below_ bytesLong tokenAt tokenLong token value (-2 : Int32) _ _ hq7) (cwV 1 hts gX9_when_X9_bad rfl rfl rfl (by decide +kernel) ⟨Nat.le_of_ble_eq_true rfl, Nat.le_of_ble_eq_true rfl⟩) 0 rfl rfl [0, 2] rfl rfl rfl [.inr 0, .inl 1, .inr 1, .inl 3] rfl rfl rfl rfl (Nat.le_of_ble_eq_true rfl) dX9_when_11 (fun H locs hS => ?_)
  obtain rfl := Option.some.inj h
  exact hend _ _ _ _ dX9_when_14 hS

-- InnTurnedModel.pen(I)I
def wd_X9_pen (cI cB cZ : ClassId) (a_this : Nat) (a_all : Nat) (a_kept : Nat) (a_isKept : Nat) (a_refused : Nat) (a_hand : Nat) (a_outs : Nat) (a_order0 : Nat) (a_bestOrder : Nat) (a_tells : Nat) (a_bytes : Nat) (a_anew : Nat) (a_values : Nat)  (all : (Nat → Int32)) (refused : (Nat → Int32)) (above : Int64) (below_ : Int64) (hand : (Nat → Int32)) (bytesLong : Int32) (tokenAt : Int32) (tokenLong : Int32) (token : Int32) (value : Int32) : va_W := [(a_this, .inr (6, [.ref a_all, .ref a_kept, .ref a_isKept, .ref a_refused, .long above, .long below_, .ref a_hand, .ref a_outs, .ref a_order0, .ref a_bestOrder, .ref a_tells, .ref a_bytes, .int bytesLong, .int tokenAt, .int tokenLong, .int token, .int value, .ref a_anew, .ref a_values])), (a_all, .inl (cI, 250, .inl all)), (a_refused, .inl (cI, 3, .inl refused)), (a_hand, .inl (cI, 38, .inl hand))]
abbrev rm_X9_pen : Room := { frames := 3, cells := 0, slots := 0, locals := 67 }
set_option maxRecDepth 20000 in
theorem inX9_X9_pen : ∀ w ∈ u_ws RX9 TX9 19, w ∈ wsX9_pen := by decide +kernel
def f_X9_pen_b54 (k_b23 : (Nat → Int32) → (Nat → Int32) → Int32 → Int32 → Int32 → Option (Int32 × (Nat → Int32) × (Nat → Int32)))  (all : (Nat → Int32)) (refused : (Nat → Int32)) (hand : (Nat → Int32)) (l1 : Int32) (l3 : Int32) (t0 : Int32) : Option (Int32 × (Nat → Int32) × (Nat → Int32)) := k_b23 refused hand l1 t0 (l3 + (1 : Int32))
set_option maxHeartbeats 4000000 in
set_option maxRecDepth 100000 in
theorem w_X9_pen_b54 {p : Program} {l : Launch} {e : Env} {s : State} {m : MethodId} {args : Array Value} {below : List Frame} {meth : Method} {c : Code} {A : Nat → Prop} {Q : State → Prop} {D : va_G} {cI cB cZ : ClassId} {a_this a_all a_kept a_isKept a_refused a_hand a_outs a_order0 a_bestOrder a_tells a_bytes a_anew a_values : Nat} {all : (Nat → Int32)} {above : Int64} {below_ : Int64} {bytesLong : Int32} {tokenAt : Int32} {tokenLong : Int32} {token : Int32} {value : Int32} (C0 : Cx p s m args c cX9_pen 4 RX9 wsX9_pen D (s_tys cI cB cZ) A) {rv : Int32 × (Nat → Int32) × (Nat → Int32)} (hend : ∀ (pc : Nat) (H : Heap) (locs : List Loc) (ls : Array Slot), decode cX9_pen pc = .ok (.ireturn, 1) → sS D vwCl A s.heap (wd_X9_pen cI cB cZ a_this a_all a_kept a_isKept a_refused a_hand a_outs a_order0 a_bestOrder a_tells a_bytes a_anew a_values all rv.2.1 above below_ rv.2.2 bytesLong tokenAt tokenLong token value) H locs → W p l e rm_X9_pen s m args below meth c H locs 0 0 Q (F0 m pc ls [.int rv.1])) (k_b23 : (Nat → Int32) → (Nat → Int32) → Int32 → Int32 → Int32 → Option (Int32 × (Nat → Int32) × (Nat → Int32))) (hk_b23 : ∀ (refused : (Nat → Int32)) (hand : (Nat → Int32)) (l1 : Int32) (l2 : Int32) (l3 : Int32) (H : Heap) (locs : List Loc) (ls : Array Slot), k_b23 refused hand l1 l2 l3 = some rv → sS D vwCl A s.heap (wd_X9_pen cI cB cZ a_this a_all a_kept a_isKept a_refused a_hand a_outs a_order0 a_bestOrder a_tells a_bytes a_anew a_values all refused above below_ hand bytesLong tokenAt tokenLong token value) H locs → lv_has ls 4 [(0, .ref a_this), (1, .int l1), (2, .int l2), (3, .int l3)] → W p l e rm_X9_pen s m args below meth c H locs 0 0 Q (F0 m 23 ls [])) : ∀ (refused : (Nat → Int32)) (hand : (Nat → Int32)) (l1 : Int32) (l3 : Int32) (t0 : Int32) (H : Heap) (locs : List Loc) (ls : Array Slot), f_X9_pen_b54 k_b23 all refused hand l1 l3 t0 = some rv → sS D vwCl A s.heap (wd_X9_pen cI cB cZ a_this a_all a_kept a_isKept a_refused a_hand a_outs a_order0 a_bestOrder a_tells a_bytes a_anew a_values all refused above below_ hand bytesLong tokenAt tokenLong token value) H locs → lv_has ls 4 [(0, .ref a_this), (1, .int l1), (3, .int l3)] → W p l e rm_X9_pen s m args below meth c H locs 0 0 Q (F0 m 54 ls [.int t0]) := by
  obtain ⟨hx, hb, hml, hown, hts, hK, hA⟩ := id C0
  have inX9 : ∀ w ∈ u_ws RX9 TX9 19, w ∈ wsX9_pen := inX9_X9_pen
  intro refused hand l1 l3 t0 H locs ls h hS hl
  unfold f_X9_pen_b54 at h
  refine lv_istore_n (lv' := [(2, .int t0), (0, .ref a_this), (1, .int l1), (3, .int l3)]) hx hb dX9_pen_54 rfl hl (by decide) rfl (fun ls hl => ?_)
  refine lv_iinc (v := (l3 + (1 : Int32))) (lv' := [(3, .int (l3 + (1 : Int32))), (2, .int t0), (0, .ref a_this), (1, .int l1)]) hx hb dX9_pen_55 hl (k := 3) rfl rfl (by decide) rfl (fun ls hl => ?_)
  refine lv_goto (tgt := 23) hx hb dX9_pen_58 (by decide) ?_
  exact hk_b23 refused hand l1 t0 (l3 + (1 : Int32)) _ _ _ h hS (lv_sub hl [2, 3, 1, 0] rfl)
def f_X9_pen_b23  (all : (Nat → Int32)) : Nat → (Nat → Int32) → (Nat → Int32) → Int32 → Int32 → Int32 → Option (Int32 × (Nat → Int32) × (Nat → Int32))
  | 0, _, _, _, _, _ => none
  | fu + 1, refused, hand, l1, l2, l3 => (if (10 : Int32) ≤ l3 then some (l2, refused, hand) else (if ¬ (((5 : Int32) + l1) < 0 ∨ 38 ≤ (Int32.toNatClampNeg ((5 : Int32) + l1))) then ((f_X9_letsIn 38 (upd hand (Int32.toNatClampNeg ((5 : Int32) + l1)) l3) l1).bind fun q3 => (if q3 = 0 then f_X9_pen_b54 (f_X9_pen_b23 all fu) all refused (upd hand (Int32.toNatClampNeg ((5 : Int32) + l1)) l3) l1 l3 l2 else f_X9_pen_b54 (f_X9_pen_b23 all fu) all refused (upd hand (Int32.toNatClampNeg ((5 : Int32) + l1)) l3) l1 l3 l3)) else none))
set_option maxHeartbeats 4000000 in
set_option maxRecDepth 100000 in
theorem w_X9_pen_b23 {p : Program} {l : Launch} {e : Env} {s : State} {m : MethodId} {args : Array Value} {below : List Frame} {meth : Method} {c : Code} {A : Nat → Prop} {Q : State → Prop} {D : va_G} {cI cB cZ : ClassId} {a_this a_all a_kept a_isKept a_refused a_hand a_outs a_order0 a_bestOrder a_tells a_bytes a_anew a_values : Nat} {all : (Nat → Int32)} {above : Int64} {below_ : Int64} {bytesLong : Int32} {tokenAt : Int32} {tokenLong : Int32} {token : Int32} {value : Int32} (C0 : Cx p s m args c cX9_pen 4 RX9 wsX9_pen D (s_tys cI cB cZ) A) {rv : Int32 × (Nat → Int32) × (Nat → Int32)} (hend : ∀ (pc : Nat) (H : Heap) (locs : List Loc) (ls : Array Slot), decode cX9_pen pc = .ok (.ireturn, 1) → sS D vwCl A s.heap (wd_X9_pen cI cB cZ a_this a_all a_kept a_isKept a_refused a_hand a_outs a_order0 a_bestOrder a_tells a_bytes a_anew a_values all rv.2.1 above below_ rv.2.2 bytesLong tokenAt tokenLong token value) H locs → W p l e rm_X9_pen s m args below meth c H locs 0 0 Q (F0 m pc ls [.int rv.1])) : ∀ (fu : Nat) (refused : (Nat → Int32)) (hand : (Nat → Int32)) (l1 : Int32) (l2 : Int32) (l3 : Int32) (H : Heap) (locs : List Loc) (ls : Array Slot), f_X9_pen_b23 all fu refused hand l1 l2 l3 = some rv → sS D vwCl A s.heap (wd_X9_pen cI cB cZ a_this a_all a_kept a_isKept a_refused a_hand a_outs a_order0 a_bestOrder a_tells a_bytes a_anew a_values all refused above below_ hand bytesLong tokenAt tokenLong token value) H locs → lv_has ls 4 [(0, .ref a_this), (1, .int l1), (2, .int l2), (3, .int l3)] → W p l e rm_X9_pen s m args below meth c H locs 0 0 Q (F0 m 23 ls []) := by
  obtain ⟨hx, hb, hml, hown, hts, hK, hA⟩ := id C0
  have inX9 : ∀ w ∈ u_ws RX9 TX9 19, w ∈ wsX9_pen := inX9_X9_pen
  intro fu
  induction fu with
  | zero => intro refused hand l1 l2 l3 H locs ls h; cases h
  | succ fu ih =>
    intro refused hand l1 l2 l3 H locs ls h hS hl
    rw [f_X9_pen_b23] at h
    refine lv_iload_n hx hb dX9_pen_23 rfl (lv_at hl 3 rfl) ?_
    refine lv_bipush (v := (10 : Int32)) hx hb dX9_pen_24 (by decide) ?_
    refine lv_icmp_ge (tgt := 61) hx hb dX9_pen_26 (by decide) (fun c1 => ?_) (fun c1 => ?_)
    · replace h := s_yes c1 h
      refine lv_iload_n hx hb dX9_pen_61 rfl (lv_at hl 2 rfl) ?_
      obtain rfl := Option.some.inj h
      exact hend _ _ _ _ dX9_pen_62 hS
    replace h := s_no c1 h
    refine lv_aload_n hx hb dX9_pen_29 rfl (lv_at hl 0 rfl) ?_
    refine s_get (C := RX9) (T := TX9) (N := 19) hx hb hts inX9 hown hK hS 0 rfl rfl 6 (by decide) (hts (.fieldLink RX9 27 "InnTurnedModel" "hand" "[I") (List.mem_of_getElem? (i := 1) rfl)) rfl rfl dX9_pen_30 ?_
    refine lv_iconst (v := (5 : Int32)) hx hb dX9_pen_33 (by decide) ?_
    refine lv_iload_n hx hb dX9_pen_34 rfl (lv_at hl 1 rfl) ?_
    refine lv_iadd hx hb dX9_pen_35 ?_
    refine lv_iload_n hx hb dX9_pen_36 rfl (lv_at hl 3 rfl) ?_
    obtain ⟨g2, h⟩ := s_guard h
    refine s_iast (ws' := (wd_X9_pen cI cB cZ a_this a_all a_kept a_isKept a_refused a_hand a_outs a_order0 a_bestOrder a_tells a_bytes a_anew a_values all refused above below_ (upd hand (Int32.toNatClampNeg ((5 : Int32) + l1)) l3) bytesLong tokenAt tokenLong token value)) hx hb hK hS 3 rfl rfl g2 rfl dX9_pen_37 (fun H locs hS => ?_)
    refine lv_aload_n hx hb dX9_pen_38 rfl (lv_at hl 0 rfl) ?_
    refine s_get (C := RX9) (T := TX9) (N := 19) hx hb hts inX9 hown hK hS 0 rfl rfl 6 (by decide) (hts (.fieldLink RX9 27 "InnTurnedModel" "hand" "[I") (List.mem_of_getElem? (i := 1) rfl)) rfl rfl dX9_pen_39 ?_
    refine lv_iload_n hx hb dX9_pen_42 rfl (lv_at hl 1 rfl) ?_
    obtain ⟨q3, hq3, h⟩ := s_bind h
    refine u_calliS (r := q3) (As := [.ref a_hand, .int l1]) (rest := []) (wc := (wd_X9_letsIn cI cB cZ a_hand 38 (upd hand (Int32.toNatClampNeg ((5 : Int32) + l1)) l3))) hx hb hml hown hts hK hA hl hS (c_X9_letsIn l D cI cB cZ a_hand 38 (upd hand (Int32.toNatClampNeg ((5 : Int32) + l1)) l3) l1 _ _ hq3) (va_cwS 2 hts gX9_pen_X9_letsIn rfl rfl rfl (by decide +kernel) ⟨Nat.le_of_ble_eq_true rfl, Nat.le_of_ble_eq_true rfl⟩) [3] rfl rfl rfl rfl (Nat.le_of_ble_eq_true rfl) dX9_pen_43 (fun H locs hS => ?_)
    refine lv_if_eq (tgt := 53) hx hb dX9_pen_46 (by decide) (fun c4 => ?_) (fun c4 => ?_)
    · replace h := s_yes c4 h
      refine lv_iload_n hx hb dX9_pen_53 rfl (lv_at hl 2 rfl) ?_
      exact w_X9_pen_b54 C0 hend (f_X9_pen_b23 all fu) ih refused (upd hand (Int32.toNatClampNeg ((5 : Int32) + l1)) l3) l1 l3 l2 _ _ _ h hS (lv_sub hl [0, 1, 3] rfl)
    replace h := s_no c4 h
    refine lv_iload_n hx hb dX9_pen_49 rfl (lv_at hl 3 rfl) ?_
    refine lv_goto (tgt := 54) hx hb dX9_pen_50 (by decide) ?_
    exact w_X9_pen_b54 C0 hend (f_X9_pen_b23 all fu) ih refused (upd hand (Int32.toNatClampNeg ((5 : Int32) + l1)) l3) l1 l3 l3 _ _ _ h hS (lv_sub hl [0, 1, 3] rfl)
def f_X9_pen  (all : (Nat → Int32)) (refused : (Nat → Int32)) (hand : (Nat → Int32)) (p1 : Int32) : Option (Int32 × (Nat → Int32) × (Nat → Int32)) := ((f_X9_isOne all p1).bind fun q5 => (if q5 = 0 then ((f_X9_bad refused (-2 : Int32)).bind fun q8 => some (q8.1, q8.2, hand)) else ((f_X9_layHand all hand).bind fun q7 => f_X9_pen_b23  all s_fuel refused q7 p1 (-1 : Int32) (0 : Int32))))
set_option maxHeartbeats 4000000 in
set_option maxRecDepth 100000 in
theorem c_X9_pen (l : Launch) (D : va_G) (cI cB cZ : ClassId) (a_this : Nat) (a_all : Nat) (a_kept : Nat) (a_isKept : Nat) (a_refused : Nat) (a_hand : Nat) (a_outs : Nat) (a_order0 : Nat) (a_bestOrder : Nat) (a_tells : Nat) (a_bytes : Nat) (a_anew : Nat) (a_values : Nat) (all : (Nat → Int32)) (refused : (Nat → Int32)) (above : Int64) (below_ : Int64) (hand : (Nat → Int32)) (bytesLong : Int32) (tokenAt : Int32) (tokenLong : Int32) (token : Int32) (value : Int32) (p1 : Int32) (rv : Int32 × (Nat → Int32) × (Nat → Int32)) (sz : Nat) (hf : f_X9_pen all refused hand p1 = some rv) : Met l yX9_pen wsX9_pen rm_X9_pen (sPc D vwCl (s_tys cI cB cZ) [.ref a_this, .int p1] (wd_X9_pen cI cB cZ a_this a_all a_kept a_isKept a_refused a_hand a_outs a_order0 a_bestOrder a_tells a_bytes a_anew a_values all refused above below_ hand bytesLong tokenAt tokenLong token value) sz) (sQi D vwCl (wd_X9_pen cI cB cZ a_this a_all a_kept a_isKept a_refused a_hand a_outs a_order0 a_bestOrder a_tells a_bytes a_anew a_values all refused above below_ hand bytesLong tokenAt tokenLong token value) (wd_X9_pen cI cB cZ a_this a_all a_kept a_isKept a_refused a_hand a_outs a_order0 a_bestOrder a_tells a_bytes a_anew a_values all rv.2.1 above below_ rv.2.2 bytesLong tokenAt tokenLong token value) sz rv.1) 0 0 (va_A (wd_X9_pen cI cB cZ a_this a_all a_kept a_isKept a_refused a_hand a_outs a_order0 a_bestOrder a_tells a_bytes a_anew a_values all refused above below_ hand bytesLong tokenAt tokenLong token value) sz) := by
  refine s_enter_n (cc := cX9_pen) (nL := 4) (r := rv.1) (by decide) rfl (Nat.le_of_ble_eq_true rfl) ?_
  intro p e s m args below meth c A Q C0 hend ls hl hS
  have h := hf
  clear hf
  replace hl : lv_has ls 4 [(0, .ref a_this), (1, .int p1)] := hl
  unfold f_X9_pen at h
  obtain ⟨hx, hb, hml, hown, hts, hK, hA⟩ := id C0
  have inX9 : ∀ w ∈ u_ws RX9 TX9 19, w ∈ wsX9_pen := inX9_X9_pen
  refine lv_aload_n hx hb dX9_pen_0 rfl (lv_at hl 0 rfl) ?_
  refine lv_iload_n hx hb dX9_pen_1 rfl (lv_at hl 1 rfl) ?_
  obtain ⟨q5, hq5, h⟩ := s_bind h
  refine u_calliV (r := q5) (As := [.int p1]) (rest := []) (wc := (wd_X9_isOne cI cB cZ a_this a_all a_kept a_isKept a_refused a_hand a_outs a_order0 a_bestOrder a_tells a_bytes a_anew a_values all above below_ bytesLong tokenAt tokenLong token value)) hx hb hml hown hts hK hA hl hS (c_X9_isOne l D cI cB cZ a_this a_all a_kept a_isKept a_refused a_hand a_outs a_order0 a_bestOrder a_tells a_bytes a_anew a_values all above below_ bytesLong tokenAt tokenLong token value p1 _ _ hq5) (cwV 1 hts gX9_pen_X9_isOne rfl rfl rfl (by decide +kernel) ⟨Nat.le_of_ble_eq_true rfl, Nat.le_of_ble_eq_true rfl⟩) 0 rfl rfl [0, 1] rfl rfl rfl rfl (Nat.le_of_ble_eq_true rfl) dX9_pen_2 (fun H locs hS => ?_)
  refine lv_if_ne (tgt := 15) hx hb dX9_pen_5 (by decide) (fun c6 => ?_) (fun c6 => ?_)
  · replace h := s_no c6 h
    refine lv_iconst (v := (-1 : Int32)) hx hb dX9_pen_15 (by decide) ?_
    refine lv_istore_n (lv' := [(2, .int (-1 : Int32)), (0, .ref a_this), (1, .int p1)]) hx hb dX9_pen_16 rfl hl (by decide) rfl (fun ls hl => ?_)
    refine lv_aload_n hx hb dX9_pen_17 rfl (lv_at hl 1 rfl) ?_
    obtain ⟨q7, hq7, h⟩ := s_bind h
    refine r_callvV (As := []) (rest := []) (wc := (wd_X9_layHand cI cB cZ a_this a_all a_kept a_isKept a_refused a_hand a_outs a_order0 a_bestOrder a_tells a_bytes a_anew a_values all above below_ hand bytesLong tokenAt tokenLong token value)) (w1 := (wd_X9_layHand cI cB cZ a_this a_all a_kept a_isKept a_refused a_hand a_outs a_order0 a_bestOrder a_tells a_bytes a_anew a_values all above below_ q7 bytesLong tokenAt tokenLong token value)) (ws' := (wd_X9_pen cI cB cZ a_this a_all a_kept a_isKept a_refused a_hand a_outs a_order0 a_bestOrder a_tells a_bytes a_anew a_values all refused above below_ q7 bytesLong tokenAt tokenLong token value)) hx hb hml hown hts hK hA hl hS (c_X9_layHand l D cI cB cZ a_this a_all a_kept a_isKept a_refused a_hand a_outs a_order0 a_bestOrder a_tells a_bytes a_anew a_values all above below_ hand bytesLong tokenAt tokenLong token value _ _ hq7) (cwV 0 hts gX9_pen_X9_layHand rfl rfl rfl (by decide +kernel) ⟨Nat.le_of_ble_eq_true rfl, Nat.le_of_ble_eq_true rfl⟩) 0 rfl rfl [0, 1, 3] rfl rfl rfl [.inr 0, .inr 1, .inl 2, .inr 2] rfl rfl rfl rfl (Nat.le_of_ble_eq_true rfl) dX9_pen_18 (fun H locs hS => ?_)
    refine lv_iconst (v := (0 : Int32)) hx hb dX9_pen_21 (by decide) ?_
    refine lv_istore_n (lv' := [(3, .int (0 : Int32)), (2, .int (-1 : Int32)), (0, .ref a_this), (1, .int p1)]) hx hb dX9_pen_22 rfl hl (by decide) rfl (fun ls hl => ?_)
    exact w_X9_pen_b23 C0 hend  s_fuel refused q7 p1 (-1 : Int32) (0 : Int32) _ _ _ h hS (lv_sub hl [2, 3, 1, 0] rfl)
  replace h := s_yes c6 h
  refine lv_aload_n hx hb dX9_pen_8 rfl (lv_at hl 0 rfl) ?_
  refine lv_bipush (v := (-2 : Int32)) hx hb dX9_pen_9 (by decide) ?_
  obtain ⟨q8, hq8, h⟩ := s_bind h
  refine r_calliV (r := q8.1) (As := [.int (-2 : Int32)]) (rest := []) (wc := (wd_X9_bad cI cB cZ a_this a_all a_kept a_isKept a_refused a_hand a_outs a_order0 a_bestOrder a_tells a_bytes a_anew a_values refused above below_ bytesLong tokenAt tokenLong token value)) (w1 := (wd_X9_bad cI cB cZ a_this a_all a_kept a_isKept a_refused a_hand a_outs a_order0 a_bestOrder a_tells a_bytes a_anew a_values q8.2 above below_ bytesLong tokenAt tokenLong token value)) (ws' := (wd_X9_pen cI cB cZ a_this a_all a_kept a_isKept a_refused a_hand a_outs a_order0 a_bestOrder a_tells a_bytes a_anew a_values all q8.2 above below_ hand bytesLong tokenAt tokenLong token value)) hx hb hml hown hts hK hA hl hS (c_X9_bad l D cI cB cZ a_this a_all a_kept a_isKept a_refused a_hand a_outs a_order0 a_bestOrder a_tells a_bytes a_anew a_values refused above below_ bytesLong tokenAt tokenLong token value (-2 : Int32) _ _ hq8) (cwV 1 hts gX9_pen_X9_bad rfl rfl rfl (by decide +kernel) ⟨Nat.le_of_ble_eq_true rfl, Nat.le_of_ble_eq_true rfl⟩) 0 rfl rfl [0, 2] rfl rfl rfl [.inr 0, .inl 1, .inr 1, .inl 3] rfl rfl rfl rfl (Nat.le_of_ble_eq_true rfl) dX9_pen_11 (fun H locs hS => ?_)
  obtain rfl := Option.some.inj h
  exact hend _ _ _ _ dX9_pen_14 hS

-- InnTurnedModel.layOuts()I
def wd_X9_layOuts (cI cB cZ : ClassId) (a_this : Nat) (a_all : Nat) (a_kept : Nat) (a_isKept : Nat) (a_refused : Nat) (a_hand : Nat) (a_outs : Nat) (a_order0 : Nat) (a_bestOrder : Nat) (a_tells : Nat) (a_bytes : Nat) (a_anew : Nat) (a_values : Nat)  (all : (Nat → Int32)) (above : Int64) (below_ : Int64) (outs : (Nat → Int32)) (bytesLong : Int32) (tokenAt : Int32) (tokenLong : Int32) (token : Int32) (value : Int32) : va_W := [(a_this, .inr (6, [.ref a_all, .ref a_kept, .ref a_isKept, .ref a_refused, .long above, .long below_, .ref a_hand, .ref a_outs, .ref a_order0, .ref a_bestOrder, .ref a_tells, .ref a_bytes, .int bytesLong, .int tokenAt, .int tokenLong, .int token, .int value, .ref a_anew, .ref a_values])), (a_all, .inl (cI, 250, .inl all)), (a_outs, .inl (cI, 7, .inl outs))]
abbrev rm_X9_layOuts : Room := { frames := 1, cells := 0, slots := 0, locals := 21 }
set_option maxRecDepth 20000 in
theorem inX9_X9_layOuts : ∀ w ∈ u_ws RX9 TX9 19, w ∈ wsX9_layOuts := by decide +kernel
def f_X9_layOuts_b36 (k_b4 : (Nat → Int32) → Int32 → Int32 → Option (Int32 × (Nat → Int32)))  (all : (Nat → Int32)) (outs : (Nat → Int32)) (l1 : Int32) (l2 : Int32) : Option (Int32 × (Nat → Int32)) := k_b4 outs l1 (l2 + (1 : Int32))
set_option maxHeartbeats 4000000 in
set_option maxRecDepth 100000 in
theorem w_X9_layOuts_b36 {p : Program} {l : Launch} {e : Env} {s : State} {m : MethodId} {args : Array Value} {below : List Frame} {meth : Method} {c : Code} {A : Nat → Prop} {Q : State → Prop} {D : va_G} {cI cB cZ : ClassId} {a_this a_all a_kept a_isKept a_refused a_hand a_outs a_order0 a_bestOrder a_tells a_bytes a_anew a_values : Nat} {all : (Nat → Int32)} {above : Int64} {below_ : Int64} {bytesLong : Int32} {tokenAt : Int32} {tokenLong : Int32} {token : Int32} {value : Int32} (C0 : Cx p s m args c cX9_layOuts 3 RX9 wsX9_layOuts D (s_tys cI cB cZ) A) {rv : Int32 × (Nat → Int32)} (hend : ∀ (pc : Nat) (H : Heap) (locs : List Loc) (ls : Array Slot), decode cX9_layOuts pc = .ok (.ireturn, 1) → sS D vwCl A s.heap (wd_X9_layOuts cI cB cZ a_this a_all a_kept a_isKept a_refused a_hand a_outs a_order0 a_bestOrder a_tells a_bytes a_anew a_values all above below_ rv.2 bytesLong tokenAt tokenLong token value) H locs → W p l e rm_X9_layOuts s m args below meth c H locs 0 0 Q (F0 m pc ls [.int rv.1])) (k_b4 : (Nat → Int32) → Int32 → Int32 → Option (Int32 × (Nat → Int32))) (hk_b4 : ∀ (outs : (Nat → Int32)) (l1 : Int32) (l2 : Int32) (H : Heap) (locs : List Loc) (ls : Array Slot), k_b4 outs l1 l2 = some rv → sS D vwCl A s.heap (wd_X9_layOuts cI cB cZ a_this a_all a_kept a_isKept a_refused a_hand a_outs a_order0 a_bestOrder a_tells a_bytes a_anew a_values all above below_ outs bytesLong tokenAt tokenLong token value) H locs → lv_has ls 3 [(0, .ref a_this), (1, .int l1), (2, .int l2)] → W p l e rm_X9_layOuts s m args below meth c H locs 0 0 Q (F0 m 4 ls [])) : ∀ (outs : (Nat → Int32)) (l1 : Int32) (l2 : Int32) (H : Heap) (locs : List Loc) (ls : Array Slot), f_X9_layOuts_b36 k_b4 all outs l1 l2 = some rv → sS D vwCl A s.heap (wd_X9_layOuts cI cB cZ a_this a_all a_kept a_isKept a_refused a_hand a_outs a_order0 a_bestOrder a_tells a_bytes a_anew a_values all above below_ outs bytesLong tokenAt tokenLong token value) H locs → lv_has ls 3 [(0, .ref a_this), (1, .int l1), (2, .int l2)] → W p l e rm_X9_layOuts s m args below meth c H locs 0 0 Q (F0 m 36 ls []) := by
  obtain ⟨hx, hb, hml, hown, hts, hK, hA⟩ := id C0
  have inX9 : ∀ w ∈ u_ws RX9 TX9 19, w ∈ wsX9_layOuts := inX9_X9_layOuts
  intro outs l1 l2 H locs ls h hS hl
  unfold f_X9_layOuts_b36 at h
  refine lv_iinc (v := (l2 + (1 : Int32))) (lv' := [(2, .int (l2 + (1 : Int32))), (0, .ref a_this), (1, .int l1)]) hx hb dX9_layOuts_36 hl (k := 2) rfl rfl (by decide) rfl (fun ls hl => ?_)
  refine lv_goto (tgt := 4) hx hb dX9_layOuts_39 (by decide) ?_
  exact hk_b4 outs l1 (l2 + (1 : Int32)) _ _ _ h hS (lv_sub hl [1, 2, 0] rfl)
def f_X9_layOuts_b4  (all : (Nat → Int32)) : Nat → (Nat → Int32) → Int32 → Int32 → Option (Int32 × (Nat → Int32))
  | 0, _, _, _ => none
  | fu + 1, outs, l1, l2 => ((f_X9_many all).bind fun q1 => (if q1 ≤ l2 then some (l1, outs) else ((f_X9_has (all (Int32.toNatClampNeg (19 : Int32))) l2).bind fun q3 => (if q3 = 0 then (if ¬ (l1 < 0 ∨ 7 ≤ (Int32.toNatClampNeg l1)) then f_X9_layOuts_b36 (f_X9_layOuts_b4 all fu) all (upd outs (Int32.toNatClampNeg l1) l2) (l1 + (1 : Int32)) l2 else none) else f_X9_layOuts_b36 (f_X9_layOuts_b4 all fu) all outs l1 l2))))
set_option maxHeartbeats 4000000 in
set_option maxRecDepth 100000 in
theorem w_X9_layOuts_b4 {p : Program} {l : Launch} {e : Env} {s : State} {m : MethodId} {args : Array Value} {below : List Frame} {meth : Method} {c : Code} {A : Nat → Prop} {Q : State → Prop} {D : va_G} {cI cB cZ : ClassId} {a_this a_all a_kept a_isKept a_refused a_hand a_outs a_order0 a_bestOrder a_tells a_bytes a_anew a_values : Nat} {all : (Nat → Int32)} {above : Int64} {below_ : Int64} {bytesLong : Int32} {tokenAt : Int32} {tokenLong : Int32} {token : Int32} {value : Int32} (C0 : Cx p s m args c cX9_layOuts 3 RX9 wsX9_layOuts D (s_tys cI cB cZ) A) {rv : Int32 × (Nat → Int32)} (hend : ∀ (pc : Nat) (H : Heap) (locs : List Loc) (ls : Array Slot), decode cX9_layOuts pc = .ok (.ireturn, 1) → sS D vwCl A s.heap (wd_X9_layOuts cI cB cZ a_this a_all a_kept a_isKept a_refused a_hand a_outs a_order0 a_bestOrder a_tells a_bytes a_anew a_values all above below_ rv.2 bytesLong tokenAt tokenLong token value) H locs → W p l e rm_X9_layOuts s m args below meth c H locs 0 0 Q (F0 m pc ls [.int rv.1])) : ∀ (fu : Nat) (outs : (Nat → Int32)) (l1 : Int32) (l2 : Int32) (H : Heap) (locs : List Loc) (ls : Array Slot), f_X9_layOuts_b4 all fu outs l1 l2 = some rv → sS D vwCl A s.heap (wd_X9_layOuts cI cB cZ a_this a_all a_kept a_isKept a_refused a_hand a_outs a_order0 a_bestOrder a_tells a_bytes a_anew a_values all above below_ outs bytesLong tokenAt tokenLong token value) H locs → lv_has ls 3 [(0, .ref a_this), (1, .int l1), (2, .int l2)] → W p l e rm_X9_layOuts s m args below meth c H locs 0 0 Q (F0 m 4 ls []) := by
  obtain ⟨hx, hb, hml, hown, hts, hK, hA⟩ := id C0
  have inX9 : ∀ w ∈ u_ws RX9 TX9 19, w ∈ wsX9_layOuts := inX9_X9_layOuts
  intro fu
  induction fu with
  | zero => intro outs l1 l2 H locs ls h; cases h
  | succ fu ih =>
    intro outs l1 l2 H locs ls h hS hl
    rw [f_X9_layOuts_b4] at h
    refine lv_iload_n hx hb dX9_layOuts_4 rfl (lv_at hl 2 rfl) ?_
    refine lv_aload_n hx hb dX9_layOuts_5 rfl (lv_at hl 0 rfl) ?_
    obtain ⟨q1, hq1, h⟩ := s_bind h
    refine u_calliV (r := q1) (As := []) (rest := [.int l2]) (wc := (wd_X9_many cI cB cZ a_this a_all a_kept a_isKept a_refused a_hand a_outs a_order0 a_bestOrder a_tells a_bytes a_anew a_values all above below_ bytesLong tokenAt tokenLong token value)) hx hb hml hown hts hK hA hl hS (c_X9_many l D cI cB cZ a_this a_all a_kept a_isKept a_refused a_hand a_outs a_order0 a_bestOrder a_tells a_bytes a_anew a_values all above below_ bytesLong tokenAt tokenLong token value _ _ hq1) (cwV 0 hts gX9_layOuts_X9_many rfl rfl rfl (by decide +kernel) ⟨Nat.le_of_ble_eq_true rfl, Nat.le_of_ble_eq_true rfl⟩) 0 rfl rfl [0, 1] rfl rfl rfl rfl (Nat.le_of_ble_eq_true rfl) dX9_layOuts_6 (fun H locs hS => ?_)
    refine lv_icmp_ge (tgt := 42) hx hb dX9_layOuts_9 (by decide) (fun c2 => ?_) (fun c2 => ?_)
    · replace h := s_yes c2 h
      refine lv_iload_n hx hb dX9_layOuts_42 rfl (lv_at hl 1 rfl) ?_
      obtain rfl := Option.some.inj h
      exact hend _ _ _ _ dX9_layOuts_43 hS
    replace h := s_no c2 h
    refine lv_aload_n hx hb dX9_layOuts_12 rfl (lv_at hl 0 rfl) ?_
    refine s_get (C := RX9) (T := TX9) (N := 19) hx hb hts inX9 hown hK hS 0 rfl rfl 0 (by decide) (hts (.fieldLink RX9 7 "InnTurnedModel" "all" "[I") (List.mem_of_getElem? (i := 1) rfl)) rfl rfl dX9_layOuts_13 ?_
    refine lv_bipush (v := (19 : Int32)) hx hb dX9_layOuts_16 (by decide) ?_
    refine s_iald hx hb hK hS 1 rfl rfl (by decide) dX9_layOuts_18 ?_
    refine lv_iload_n hx hb dX9_layOuts_19 rfl (lv_at hl 2 rfl) ?_
    obtain ⟨q3, hq3, h⟩ := s_bind h
    refine u_calliS (r := q3) (As := [.int (all (Int32.toNatClampNeg (19 : Int32))), .int l2]) (rest := []) (wc := ([] : va_W)) hx hb hml hown hts hK hA hl hS (c_X9_has l D cI cB cZ (all (Int32.toNatClampNeg (19 : Int32))) l2 _ _ hq3) (va_cwS 2 hts gX9_layOuts_X9_has rfl rfl rfl (by decide +kernel) ⟨Nat.le_of_ble_eq_true rfl, Nat.le_of_ble_eq_true rfl⟩) [] rfl rfl rfl rfl (Nat.le_of_ble_eq_true rfl) dX9_layOuts_20 (fun H locs hS => ?_)
    refine lv_if_ne (tgt := 36) hx hb dX9_layOuts_23 (by decide) (fun c4 => ?_) (fun c4 => ?_)
    · replace h := s_no c4 h
      exact w_X9_layOuts_b36 C0 hend (f_X9_layOuts_b4 all fu) ih outs l1 l2 _ _ _ h hS (lv_sub hl [0, 1, 2] rfl)
    replace h := s_yes c4 h
    refine lv_aload_n hx hb dX9_layOuts_26 rfl (lv_at hl 0 rfl) ?_
    refine s_get (C := RX9) (T := TX9) (N := 19) hx hb hts inX9 hown hK hS 0 rfl rfl 7 (by decide) (hts (.fieldLink RX9 30 "InnTurnedModel" "outs" "[I") (List.mem_of_getElem? (i := 2) rfl)) rfl rfl dX9_layOuts_27 ?_
    refine lv_iload_n hx hb dX9_layOuts_30 rfl (lv_at hl 1 rfl) ?_
    refine lv_iload_n hx hb dX9_layOuts_31 rfl (lv_at hl 2 rfl) ?_
    obtain ⟨g5, h⟩ := s_guard h
    refine s_iast (ws' := (wd_X9_layOuts cI cB cZ a_this a_all a_kept a_isKept a_refused a_hand a_outs a_order0 a_bestOrder a_tells a_bytes a_anew a_values all above below_ (upd outs (Int32.toNatClampNeg l1) l2) bytesLong tokenAt tokenLong token value)) hx hb hK hS 2 rfl rfl g5 rfl dX9_layOuts_32 (fun H locs hS => ?_)
    refine lv_iinc (v := (l1 + (1 : Int32))) (lv' := [(1, .int (l1 + (1 : Int32))), (0, .ref a_this), (2, .int l2)]) hx hb dX9_layOuts_33 hl (k := 1) rfl rfl (by decide) rfl (fun ls hl => ?_)
    exact w_X9_layOuts_b36 C0 hend (f_X9_layOuts_b4 all fu) ih (upd outs (Int32.toNatClampNeg l1) l2) (l1 + (1 : Int32)) l2 _ _ _ h hS (lv_sub hl [1, 0, 2] rfl)
def f_X9_layOuts  (all : (Nat → Int32)) (outs : (Nat → Int32)) : Option (Int32 × (Nat → Int32)) := f_X9_layOuts_b4  all s_fuel outs (0 : Int32) (0 : Int32)
set_option maxHeartbeats 4000000 in
set_option maxRecDepth 100000 in
theorem c_X9_layOuts (l : Launch) (D : va_G) (cI cB cZ : ClassId) (a_this : Nat) (a_all : Nat) (a_kept : Nat) (a_isKept : Nat) (a_refused : Nat) (a_hand : Nat) (a_outs : Nat) (a_order0 : Nat) (a_bestOrder : Nat) (a_tells : Nat) (a_bytes : Nat) (a_anew : Nat) (a_values : Nat) (all : (Nat → Int32)) (above : Int64) (below_ : Int64) (outs : (Nat → Int32)) (bytesLong : Int32) (tokenAt : Int32) (tokenLong : Int32) (token : Int32) (value : Int32) (rv : Int32 × (Nat → Int32)) (sz : Nat) (hf : f_X9_layOuts all outs = some rv) : Met l yX9_layOuts wsX9_layOuts rm_X9_layOuts (sPc D vwCl (s_tys cI cB cZ) [.ref a_this] (wd_X9_layOuts cI cB cZ a_this a_all a_kept a_isKept a_refused a_hand a_outs a_order0 a_bestOrder a_tells a_bytes a_anew a_values all above below_ outs bytesLong tokenAt tokenLong token value) sz) (sQi D vwCl (wd_X9_layOuts cI cB cZ a_this a_all a_kept a_isKept a_refused a_hand a_outs a_order0 a_bestOrder a_tells a_bytes a_anew a_values all above below_ outs bytesLong tokenAt tokenLong token value) (wd_X9_layOuts cI cB cZ a_this a_all a_kept a_isKept a_refused a_hand a_outs a_order0 a_bestOrder a_tells a_bytes a_anew a_values all above below_ rv.2 bytesLong tokenAt tokenLong token value) sz rv.1) 0 0 (va_A (wd_X9_layOuts cI cB cZ a_this a_all a_kept a_isKept a_refused a_hand a_outs a_order0 a_bestOrder a_tells a_bytes a_anew a_values all above below_ outs bytesLong tokenAt tokenLong token value) sz) := by
  refine s_enter_n (cc := cX9_layOuts) (nL := 3) (r := rv.1) (by decide) rfl (Nat.le_of_ble_eq_true rfl) ?_
  intro p e s m args below meth c A Q C0 hend ls hl hS
  have h := hf
  clear hf
  replace hl : lv_has ls 3 [(0, .ref a_this)] := hl
  unfold f_X9_layOuts at h
  obtain ⟨hx, hb, hml, hown, hts, hK, hA⟩ := id C0
  have inX9 : ∀ w ∈ u_ws RX9 TX9 19, w ∈ wsX9_layOuts := inX9_X9_layOuts
  refine lv_iconst (v := (0 : Int32)) hx hb dX9_layOuts_0 (by decide) ?_
  refine lv_istore_n (lv' := [(1, .int (0 : Int32)), (0, .ref a_this)]) hx hb dX9_layOuts_1 rfl hl (by decide) rfl (fun ls hl => ?_)
  refine lv_iconst (v := (0 : Int32)) hx hb dX9_layOuts_2 (by decide) ?_
  refine lv_istore_n (lv' := [(2, .int (0 : Int32)), (1, .int (0 : Int32)), (0, .ref a_this)]) hx hb dX9_layOuts_3 rfl hl (by decide) rfl (fun ls hl => ?_)
  exact w_X9_layOuts_b4 C0 hend  s_fuel outs (0 : Int32) (0 : Int32) _ _ _ h hS (lv_sub hl [2, 1, 0] rfl)

-- InnTurnedModel.layOrder(II)V
def wd_X9_layOrder (cI cB cZ : ClassId) (a_this : Nat) (a_all : Nat) (a_kept : Nat) (a_isKept : Nat) (a_refused : Nat) (a_hand : Nat) (a_outs : Nat) (a_order0 : Nat) (a_bestOrder : Nat) (a_tells : Nat) (a_bytes : Nat) (a_anew : Nat) (a_values : Nat)  (above : Int64) (below_ : Int64) (outs : (Nat → Int32)) (order0 : (Nat → Int32)) (bytesLong : Int32) (tokenAt : Int32) (tokenLong : Int32) (token : Int32) (value : Int32) : va_W := [(a_this, .inr (6, [.ref a_all, .ref a_kept, .ref a_isKept, .ref a_refused, .long above, .long below_, .ref a_hand, .ref a_outs, .ref a_order0, .ref a_bestOrder, .ref a_tells, .ref a_bytes, .int bytesLong, .int tokenAt, .int tokenLong, .int token, .int value, .ref a_anew, .ref a_values])), (a_outs, .inl (cI, 7, .inl outs)), (a_order0, .inl (cI, 7, .inl order0))]
abbrev rm_X9_layOrder : Room := { frames := 1, cells := 0, slots := 0, locals := 21 }
set_option maxRecDepth 20000 in
theorem inX9_X9_layOrder : ∀ w ∈ u_ws RX9 TX9 19, w ∈ wsX9_layOrder := by decide +kernel
def f_X9_layOrder_b113 (k_b37 : (Nat → Int32) → Int32 → Int32 → Int32 → Int32 → Int32 → Option ((Nat → Int32))) (k_b83 : (Nat → Int32) → Int32 → Int32 → Int32 → Int32 → Int32 → Int32 → Int32 → Option ((Nat → Int32)))  (outs : (Nat → Int32)) (order0 : (Nat → Int32)) (l2 : Int32) (l3 : Int32) (l4 : Int32) (l5 : Int32) (l6 : Int32) (l8 : Int32) (t0 : Int32) (t1 : Int32) : Option ((Nat → Int32)) := k_b83 order0 l2 l3 l4 l5 l6 (t1 - t0) (l8 + (1 : Int32))
set_option maxHeartbeats 4000000 in
set_option maxRecDepth 100000 in
theorem w_X9_layOrder_b113 {p : Program} {l : Launch} {e : Env} {s : State} {m : MethodId} {args : Array Value} {below : List Frame} {meth : Method} {c : Code} {A : Nat → Prop} {Q : State → Prop} {D : va_G} {cI cB cZ : ClassId} {a_this a_all a_kept a_isKept a_refused a_hand a_outs a_order0 a_bestOrder a_tells a_bytes a_anew a_values : Nat} {above : Int64} {below_ : Int64} {outs : (Nat → Int32)} {bytesLong : Int32} {tokenAt : Int32} {tokenLong : Int32} {token : Int32} {value : Int32} (C0 : Cx p s m args c cX9_layOrder 9 RX9 wsX9_layOrder D (s_tys cI cB cZ) A) {rv : (Nat → Int32)} (hend : ∀ (pc : Nat) (H : Heap) (locs : List Loc) (ls : Array Slot), decode cX9_layOrder pc = .ok (.return_, 1) → sS D vwCl A s.heap (wd_X9_layOrder cI cB cZ a_this a_all a_kept a_isKept a_refused a_hand a_outs a_order0 a_bestOrder a_tells a_bytes a_anew a_values above below_ outs rv bytesLong tokenAt tokenLong token value) H locs → W p l e rm_X9_layOrder s m args below meth c H locs 0 0 Q (F0 m pc ls [])) (k_b37 : (Nat → Int32) → Int32 → Int32 → Int32 → Int32 → Int32 → Option ((Nat → Int32))) (hk_b37 : ∀ (order0 : (Nat → Int32)) (l2 : Int32) (l3 : Int32) (l4 : Int32) (l5 : Int32) (l6 : Int32) (H : Heap) (locs : List Loc) (ls : Array Slot), k_b37 order0 l2 l3 l4 l5 l6 = some rv → sS D vwCl A s.heap (wd_X9_layOrder cI cB cZ a_this a_all a_kept a_isKept a_refused a_hand a_outs a_order0 a_bestOrder a_tells a_bytes a_anew a_values above below_ outs order0 bytesLong tokenAt tokenLong token value) H locs → lv_has ls 9 [(0, .ref a_this), (2, .int l2), (3, .int l3), (4, .int l4), (5, .int l5), (6, .int l6)] → W p l e rm_X9_layOrder s m args below meth c H locs 0 0 Q (F0 m 37 ls [])) (k_b83 : (Nat → Int32) → Int32 → Int32 → Int32 → Int32 → Int32 → Int32 → Int32 → Option ((Nat → Int32))) (hk_b83 : ∀ (order0 : (Nat → Int32)) (l2 : Int32) (l3 : Int32) (l4 : Int32) (l5 : Int32) (l6 : Int32) (l7 : Int32) (l8 : Int32) (H : Heap) (locs : List Loc) (ls : Array Slot), k_b83 order0 l2 l3 l4 l5 l6 l7 l8 = some rv → sS D vwCl A s.heap (wd_X9_layOrder cI cB cZ a_this a_all a_kept a_isKept a_refused a_hand a_outs a_order0 a_bestOrder a_tells a_bytes a_anew a_values above below_ outs order0 bytesLong tokenAt tokenLong token value) H locs → lv_has ls 9 [(0, .ref a_this), (2, .int l2), (3, .int l3), (4, .int l4), (5, .int l5), (6, .int l6), (7, .int l7), (8, .int l8)] → W p l e rm_X9_layOrder s m args below meth c H locs 0 0 Q (F0 m 83 ls [])) : ∀ (order0 : (Nat → Int32)) (l2 : Int32) (l3 : Int32) (l4 : Int32) (l5 : Int32) (l6 : Int32) (l8 : Int32) (t0 : Int32) (t1 : Int32) (H : Heap) (locs : List Loc) (ls : Array Slot), f_X9_layOrder_b113 k_b37 k_b83 outs order0 l2 l3 l4 l5 l6 l8 t0 t1 = some rv → sS D vwCl A s.heap (wd_X9_layOrder cI cB cZ a_this a_all a_kept a_isKept a_refused a_hand a_outs a_order0 a_bestOrder a_tells a_bytes a_anew a_values above below_ outs order0 bytesLong tokenAt tokenLong token value) H locs → lv_has ls 9 [(0, .ref a_this), (2, .int l2), (3, .int l3), (4, .int l4), (5, .int l5), (6, .int l6), (8, .int l8)] → W p l e rm_X9_layOrder s m args below meth c H locs 0 0 Q (F0 m 113 ls [.int t0, .int t1]) := by
  obtain ⟨hx, hb, hml, hown, hts, hK, hA⟩ := id C0
  have inX9 : ∀ w ∈ u_ws RX9 TX9 19, w ∈ wsX9_layOrder := inX9_X9_layOrder
  intro order0 l2 l3 l4 l5 l6 l8 t0 t1 H locs ls h hS hl
  unfold f_X9_layOrder_b113 at h
  refine lv_isub hx hb dX9_layOrder_113 ?_
  refine lv_istore (lv' := [(7, .int (t1 - t0)), (0, .ref a_this), (2, .int l2), (3, .int l3), (4, .int l4), (5, .int l5), (6, .int l6), (8, .int l8)]) hx hb dX9_layOrder_114 hl (by decide) rfl (fun ls hl => ?_)
  refine lv_iinc (v := (l8 + (1 : Int32))) (lv' := [(8, .int (l8 + (1 : Int32))), (7, .int (t1 - t0)), (0, .ref a_this), (2, .int l2), (3, .int l3), (4, .int l4), (5, .int l5), (6, .int l6)]) hx hb dX9_layOrder_116 hl (k := 7) rfl rfl (by decide) rfl (fun ls hl => ?_)
  refine lv_goto (tgt := 83) hx hb dX9_layOrder_119 (by decide) ?_
  exact hk_b83 order0 l2 l3 l4 l5 l6 (t1 - t0) (l8 + (1 : Int32)) _ _ _ h hS (lv_sub hl [2, 3, 4, 5, 6, 7, 1, 0] rfl)
def f_X9_layOrder_b97 (k_b37 : (Nat → Int32) → Int32 → Int32 → Int32 → Int32 → Int32 → Option ((Nat → Int32))) (k_b83 : (Nat → Int32) → Int32 → Int32 → Int32 → Int32 → Int32 → Int32 → Int32 → Option ((Nat → Int32)))  (outs : (Nat → Int32)) (order0 : (Nat → Int32)) (l2 : Int32) (l3 : Int32) (l4 : Int32) (l5 : Int32) (l6 : Int32) (l7 : Int32) (l8 : Int32) : Option ((Nat → Int32)) := ((f_X9_has l3 l8).bind fun q1 => (if q1 = 0 then f_X9_layOrder_b113 k_b37 k_b83 outs order0 l2 l3 l4 l5 l6 l8 (0 : Int32) l7 else f_X9_layOrder_b113 k_b37 k_b83 outs order0 l2 l3 l4 l5 l6 l8 (1 : Int32) l7))
set_option maxHeartbeats 4000000 in
set_option maxRecDepth 100000 in
theorem w_X9_layOrder_b97 {p : Program} {l : Launch} {e : Env} {s : State} {m : MethodId} {args : Array Value} {below : List Frame} {meth : Method} {c : Code} {A : Nat → Prop} {Q : State → Prop} {D : va_G} {cI cB cZ : ClassId} {a_this a_all a_kept a_isKept a_refused a_hand a_outs a_order0 a_bestOrder a_tells a_bytes a_anew a_values : Nat} {above : Int64} {below_ : Int64} {outs : (Nat → Int32)} {bytesLong : Int32} {tokenAt : Int32} {tokenLong : Int32} {token : Int32} {value : Int32} (C0 : Cx p s m args c cX9_layOrder 9 RX9 wsX9_layOrder D (s_tys cI cB cZ) A) {rv : (Nat → Int32)} (hend : ∀ (pc : Nat) (H : Heap) (locs : List Loc) (ls : Array Slot), decode cX9_layOrder pc = .ok (.return_, 1) → sS D vwCl A s.heap (wd_X9_layOrder cI cB cZ a_this a_all a_kept a_isKept a_refused a_hand a_outs a_order0 a_bestOrder a_tells a_bytes a_anew a_values above below_ outs rv bytesLong tokenAt tokenLong token value) H locs → W p l e rm_X9_layOrder s m args below meth c H locs 0 0 Q (F0 m pc ls [])) (k_b37 : (Nat → Int32) → Int32 → Int32 → Int32 → Int32 → Int32 → Option ((Nat → Int32))) (hk_b37 : ∀ (order0 : (Nat → Int32)) (l2 : Int32) (l3 : Int32) (l4 : Int32) (l5 : Int32) (l6 : Int32) (H : Heap) (locs : List Loc) (ls : Array Slot), k_b37 order0 l2 l3 l4 l5 l6 = some rv → sS D vwCl A s.heap (wd_X9_layOrder cI cB cZ a_this a_all a_kept a_isKept a_refused a_hand a_outs a_order0 a_bestOrder a_tells a_bytes a_anew a_values above below_ outs order0 bytesLong tokenAt tokenLong token value) H locs → lv_has ls 9 [(0, .ref a_this), (2, .int l2), (3, .int l3), (4, .int l4), (5, .int l5), (6, .int l6)] → W p l e rm_X9_layOrder s m args below meth c H locs 0 0 Q (F0 m 37 ls [])) (k_b83 : (Nat → Int32) → Int32 → Int32 → Int32 → Int32 → Int32 → Int32 → Int32 → Option ((Nat → Int32))) (hk_b83 : ∀ (order0 : (Nat → Int32)) (l2 : Int32) (l3 : Int32) (l4 : Int32) (l5 : Int32) (l6 : Int32) (l7 : Int32) (l8 : Int32) (H : Heap) (locs : List Loc) (ls : Array Slot), k_b83 order0 l2 l3 l4 l5 l6 l7 l8 = some rv → sS D vwCl A s.heap (wd_X9_layOrder cI cB cZ a_this a_all a_kept a_isKept a_refused a_hand a_outs a_order0 a_bestOrder a_tells a_bytes a_anew a_values above below_ outs order0 bytesLong tokenAt tokenLong token value) H locs → lv_has ls 9 [(0, .ref a_this), (2, .int l2), (3, .int l3), (4, .int l4), (5, .int l5), (6, .int l6), (7, .int l7), (8, .int l8)] → W p l e rm_X9_layOrder s m args below meth c H locs 0 0 Q (F0 m 83 ls [])) : ∀ (order0 : (Nat → Int32)) (l2 : Int32) (l3 : Int32) (l4 : Int32) (l5 : Int32) (l6 : Int32) (l7 : Int32) (l8 : Int32) (H : Heap) (locs : List Loc) (ls : Array Slot), f_X9_layOrder_b97 k_b37 k_b83 outs order0 l2 l3 l4 l5 l6 l7 l8 = some rv → sS D vwCl A s.heap (wd_X9_layOrder cI cB cZ a_this a_all a_kept a_isKept a_refused a_hand a_outs a_order0 a_bestOrder a_tells a_bytes a_anew a_values above below_ outs order0 bytesLong tokenAt tokenLong token value) H locs → lv_has ls 9 [(0, .ref a_this), (2, .int l2), (3, .int l3), (4, .int l4), (5, .int l5), (6, .int l6), (7, .int l7), (8, .int l8)] → W p l e rm_X9_layOrder s m args below meth c H locs 0 0 Q (F0 m 97 ls []) := by
  obtain ⟨hx, hb, hml, hown, hts, hK, hA⟩ := id C0
  have inX9 : ∀ w ∈ u_ws RX9 TX9 19, w ∈ wsX9_layOrder := inX9_X9_layOrder
  intro order0 l2 l3 l4 l5 l6 l7 l8 H locs ls h hS hl
  unfold f_X9_layOrder_b97 at h
  refine lv_iload hx hb dX9_layOrder_97 (lv_at hl 6 rfl) ?_
  refine lv_iload_n hx hb dX9_layOrder_99 rfl (lv_at hl 2 rfl) ?_
  refine lv_iload hx hb dX9_layOrder_100 (lv_at hl 7 rfl) ?_
  obtain ⟨q1, hq1, h⟩ := s_bind h
  refine u_calliS (r := q1) (As := [.int l3, .int l8]) (rest := [.int l7]) (wc := ([] : va_W)) hx hb hml hown hts hK hA hl hS (c_X9_has l D cI cB cZ l3 l8 _ _ hq1) (va_cwS 2 hts gX9_layOrder_X9_has rfl rfl rfl (by decide +kernel) ⟨Nat.le_of_ble_eq_true rfl, Nat.le_of_ble_eq_true rfl⟩) [] rfl rfl rfl rfl (Nat.le_of_ble_eq_true rfl) dX9_layOrder_102 (fun H locs hS => ?_)
  refine lv_if_eq (tgt := 112) hx hb dX9_layOrder_105 (by decide) (fun c2 => ?_) (fun c2 => ?_)
  · replace h := s_yes c2 h
    refine lv_iconst (v := (0 : Int32)) hx hb dX9_layOrder_112 (by decide) ?_
    exact w_X9_layOrder_b113 C0 hend k_b37 hk_b37 k_b83 hk_b83 order0 l2 l3 l4 l5 l6 l8 (0 : Int32) l7 _ _ _ h hS (lv_sub hl [0, 1, 2, 3, 4, 5, 7] rfl)
  replace h := s_no c2 h
  refine lv_iconst (v := (1 : Int32)) hx hb dX9_layOrder_108 (by decide) ?_
  refine lv_goto (tgt := 113) hx hb dX9_layOrder_109 (by decide) ?_
  exact w_X9_layOrder_b113 C0 hend k_b37 hk_b37 k_b83 hk_b83 order0 l2 l3 l4 l5 l6 l8 (1 : Int32) l7 _ _ _ h hS (lv_sub hl [0, 1, 2, 3, 4, 5, 7] rfl)
def f_X9_layOrder_b83 (k_b37 : (Nat → Int32) → Int32 → Int32 → Int32 → Int32 → Int32 → Option ((Nat → Int32)))  (outs : (Nat → Int32)) : Nat → (Nat → Int32) → Int32 → Int32 → Int32 → Int32 → Int32 → Int32 → Int32 → Option ((Nat → Int32))
  | 0, _, _, _, _, _, _, _, _ => none
  | fu + 1, order0, l2, l3, l4, l5, l6, l7, l8 => ((f_X9_has l3 l8).bind fun q3 => (if q3 = 0 then f_X9_layOrder_b97 k_b37 (f_X9_layOrder_b83 k_b37 outs fu) outs order0 l2 l3 l4 l5 l6 l7 l8 else (if l7 ≤ 0 then (if ¬ (l8 < 0 ∨ 7 ≤ (Int32.toNatClampNeg l8)) then (if ¬ (l6 < 0 ∨ 7 ≤ (Int32.toNatClampNeg l6)) then k_b37 (upd order0 (Int32.toNatClampNeg l6) (outs (Int32.toNatClampNeg l8))) l2 (l3 &&& (((1 : Int32) <<< (l8 &&& 31)) ^^^ (-1 : Int32))) l4 l5 (l6 + (1 : Int32)) else none) else none) else f_X9_layOrder_b97 k_b37 (f_X9_layOrder_b83 k_b37 outs fu) outs order0 l2 l3 l4 l5 l6 l7 l8)))
set_option maxHeartbeats 4000000 in
set_option maxRecDepth 100000 in
theorem w_X9_layOrder_b83 {p : Program} {l : Launch} {e : Env} {s : State} {m : MethodId} {args : Array Value} {below : List Frame} {meth : Method} {c : Code} {A : Nat → Prop} {Q : State → Prop} {D : va_G} {cI cB cZ : ClassId} {a_this a_all a_kept a_isKept a_refused a_hand a_outs a_order0 a_bestOrder a_tells a_bytes a_anew a_values : Nat} {above : Int64} {below_ : Int64} {outs : (Nat → Int32)} {bytesLong : Int32} {tokenAt : Int32} {tokenLong : Int32} {token : Int32} {value : Int32} (C0 : Cx p s m args c cX9_layOrder 9 RX9 wsX9_layOrder D (s_tys cI cB cZ) A) {rv : (Nat → Int32)} (hend : ∀ (pc : Nat) (H : Heap) (locs : List Loc) (ls : Array Slot), decode cX9_layOrder pc = .ok (.return_, 1) → sS D vwCl A s.heap (wd_X9_layOrder cI cB cZ a_this a_all a_kept a_isKept a_refused a_hand a_outs a_order0 a_bestOrder a_tells a_bytes a_anew a_values above below_ outs rv bytesLong tokenAt tokenLong token value) H locs → W p l e rm_X9_layOrder s m args below meth c H locs 0 0 Q (F0 m pc ls [])) (k_b37 : (Nat → Int32) → Int32 → Int32 → Int32 → Int32 → Int32 → Option ((Nat → Int32))) (hk_b37 : ∀ (order0 : (Nat → Int32)) (l2 : Int32) (l3 : Int32) (l4 : Int32) (l5 : Int32) (l6 : Int32) (H : Heap) (locs : List Loc) (ls : Array Slot), k_b37 order0 l2 l3 l4 l5 l6 = some rv → sS D vwCl A s.heap (wd_X9_layOrder cI cB cZ a_this a_all a_kept a_isKept a_refused a_hand a_outs a_order0 a_bestOrder a_tells a_bytes a_anew a_values above below_ outs order0 bytesLong tokenAt tokenLong token value) H locs → lv_has ls 9 [(0, .ref a_this), (2, .int l2), (3, .int l3), (4, .int l4), (5, .int l5), (6, .int l6)] → W p l e rm_X9_layOrder s m args below meth c H locs 0 0 Q (F0 m 37 ls [])) : ∀ (fu : Nat) (order0 : (Nat → Int32)) (l2 : Int32) (l3 : Int32) (l4 : Int32) (l5 : Int32) (l6 : Int32) (l7 : Int32) (l8 : Int32) (H : Heap) (locs : List Loc) (ls : Array Slot), f_X9_layOrder_b83 k_b37 outs fu order0 l2 l3 l4 l5 l6 l7 l8 = some rv → sS D vwCl A s.heap (wd_X9_layOrder cI cB cZ a_this a_all a_kept a_isKept a_refused a_hand a_outs a_order0 a_bestOrder a_tells a_bytes a_anew a_values above below_ outs order0 bytesLong tokenAt tokenLong token value) H locs → lv_has ls 9 [(0, .ref a_this), (2, .int l2), (3, .int l3), (4, .int l4), (5, .int l5), (6, .int l6), (7, .int l7), (8, .int l8)] → W p l e rm_X9_layOrder s m args below meth c H locs 0 0 Q (F0 m 83 ls []) := by
  obtain ⟨hx, hb, hml, hown, hts, hK, hA⟩ := id C0
  have inX9 : ∀ w ∈ u_ws RX9 TX9 19, w ∈ wsX9_layOrder := inX9_X9_layOrder
  intro fu
  induction fu with
  | zero => intro order0 l2 l3 l4 l5 l6 l7 l8 H locs ls h; cases h
  | succ fu ih =>
    intro order0 l2 l3 l4 l5 l6 l7 l8 H locs ls h hS hl
    rw [f_X9_layOrder_b83] at h
    refine lv_iload_n hx hb dX9_layOrder_83 rfl (lv_at hl 2 rfl) ?_
    refine lv_iload hx hb dX9_layOrder_84 (lv_at hl 7 rfl) ?_
    obtain ⟨q3, hq3, h⟩ := s_bind h
    refine u_calliS (r := q3) (As := [.int l3, .int l8]) (rest := []) (wc := ([] : va_W)) hx hb hml hown hts hK hA hl hS (c_X9_has l D cI cB cZ l3 l8 _ _ hq3) (va_cwS 2 hts gX9_layOrder_X9_has rfl rfl rfl (by decide +kernel) ⟨Nat.le_of_ble_eq_true rfl, Nat.le_of_ble_eq_true rfl⟩) [] rfl rfl rfl rfl (Nat.le_of_ble_eq_true rfl) dX9_layOrder_86 (fun H locs hS => ?_)
    refine lv_if_eq (tgt := 97) hx hb dX9_layOrder_89 (by decide) (fun c4 => ?_) (fun c4 => ?_)
    · replace h := s_yes c4 h
      exact w_X9_layOrder_b97 C0 hend k_b37 hk_b37 (f_X9_layOrder_b83 k_b37 outs fu) ih order0 l2 l3 l4 l5 l6 l7 l8 _ _ _ h hS (lv_sub hl [0, 1, 2, 3, 4, 5, 6, 7] rfl)
    replace h := s_no c4 h
    refine lv_iload hx hb dX9_layOrder_92 (lv_at hl 6 rfl) ?_
    refine lv_if_le (tgt := 122) hx hb dX9_layOrder_94 (by decide) (fun c5 => ?_) (fun c5 => ?_)
    · replace h := s_yes c5 h
      refine lv_aload_n hx hb dX9_layOrder_122 rfl (lv_at hl 0 rfl) ?_
      refine s_get (C := RX9) (T := TX9) (N := 19) hx hb hts inX9 hown hK hS 0 rfl rfl 8 (by decide) (hts (.fieldLink RX9 33 "InnTurnedModel" "order0" "[I") (List.mem_of_getElem? (i := 1) rfl)) rfl rfl dX9_layOrder_123 ?_
      refine lv_iload hx hb dX9_layOrder_126 (lv_at hl 5 rfl) ?_
      refine lv_aload_n hx hb dX9_layOrder_128 rfl (lv_at hl 0 rfl) ?_
      refine s_get (C := RX9) (T := TX9) (N := 19) hx hb hts inX9 hown hK hS 0 rfl rfl 7 (by decide) (hts (.fieldLink RX9 30 "InnTurnedModel" "outs" "[I") (List.mem_of_getElem? (i := 2) rfl)) rfl rfl dX9_layOrder_129 ?_
      refine lv_iload hx hb dX9_layOrder_132 (lv_at hl 7 rfl) ?_
      obtain ⟨g6, h⟩ := s_guard h
      refine s_iald hx hb hK hS 1 rfl rfl g6 dX9_layOrder_134 ?_
      obtain ⟨g7, h⟩ := s_guard h
      refine s_iast (ws' := (wd_X9_layOrder cI cB cZ a_this a_all a_kept a_isKept a_refused a_hand a_outs a_order0 a_bestOrder a_tells a_bytes a_anew a_values above below_ outs (upd order0 (Int32.toNatClampNeg l6) (outs (Int32.toNatClampNeg l8))) bytesLong tokenAt tokenLong token value)) hx hb hK hS 2 rfl rfl g7 rfl dX9_layOrder_135 (fun H locs hS => ?_)
      refine lv_iload_n hx hb dX9_layOrder_136 rfl (lv_at hl 2 rfl) ?_
      refine lv_iconst (v := (1 : Int32)) hx hb dX9_layOrder_137 (by decide) ?_
      refine lv_iload hx hb dX9_layOrder_138 (lv_at hl 7 rfl) ?_
      refine lv_ishl hx hb dX9_layOrder_140 ?_
      refine lv_iconst (v := (-1 : Int32)) hx hb dX9_layOrder_141 (by decide) ?_
      refine lv_ixor hx hb dX9_layOrder_142 ?_
      refine lv_iand hx hb dX9_layOrder_143 ?_
      refine lv_istore_n (lv' := [(3, .int (l3 &&& (((1 : Int32) <<< (l8 &&& 31)) ^^^ (-1 : Int32)))), (0, .ref a_this), (2, .int l2), (4, .int l4), (5, .int l5), (6, .int l6), (7, .int l7), (8, .int l8)]) hx hb dX9_layOrder_144 rfl hl (by decide) rfl (fun ls hl => ?_)
      refine lv_iinc (v := (l6 + (1 : Int32))) (lv' := [(6, .int (l6 + (1 : Int32))), (3, .int (l3 &&& (((1 : Int32) <<< (l8 &&& 31)) ^^^ (-1 : Int32)))), (0, .ref a_this), (2, .int l2), (4, .int l4), (5, .int l5), (7, .int l7), (8, .int l8)]) hx hb dX9_layOrder_145 hl (k := 5) rfl rfl (by decide) rfl (fun ls hl => ?_)
      refine lv_goto (tgt := 37) hx hb dX9_layOrder_148 (by decide) ?_
      exact hk_b37 (upd order0 (Int32.toNatClampNeg l6) (outs (Int32.toNatClampNeg l8))) l2 (l3 &&& (((1 : Int32) <<< (l8 &&& 31)) ^^^ (-1 : Int32))) l4 l5 (l6 + (1 : Int32)) _ _ _ h hS (lv_sub hl [2, 3, 1, 4, 5, 0] rfl)
    replace h := s_no c5 h
    exact w_X9_layOrder_b97 C0 hend k_b37 hk_b37 (f_X9_layOrder_b83 k_b37 outs fu) ih order0 l2 l3 l4 l5 l6 l7 l8 _ _ _ h hS (lv_sub hl [0, 1, 2, 3, 4, 5, 6, 7] rfl)
def f_X9_layOrder_b81 (k_b37 : (Nat → Int32) → Int32 → Int32 → Int32 → Int32 → Int32 → Option ((Nat → Int32)))  (outs : (Nat → Int32)) (order0 : (Nat → Int32)) (l2 : Int32) (l3 : Int32) (l4 : Int32) (l6 : Int32) (l7 : Int32) (l8 : Int32) (t0 : Int32) : Option ((Nat → Int32)) := f_X9_layOrder_b83 k_b37 outs s_fuel order0 l2 l3 l4 t0 l6 l7 l8
set_option maxHeartbeats 4000000 in
set_option maxRecDepth 100000 in
theorem w_X9_layOrder_b81 {p : Program} {l : Launch} {e : Env} {s : State} {m : MethodId} {args : Array Value} {below : List Frame} {meth : Method} {c : Code} {A : Nat → Prop} {Q : State → Prop} {D : va_G} {cI cB cZ : ClassId} {a_this a_all a_kept a_isKept a_refused a_hand a_outs a_order0 a_bestOrder a_tells a_bytes a_anew a_values : Nat} {above : Int64} {below_ : Int64} {outs : (Nat → Int32)} {bytesLong : Int32} {tokenAt : Int32} {tokenLong : Int32} {token : Int32} {value : Int32} (C0 : Cx p s m args c cX9_layOrder 9 RX9 wsX9_layOrder D (s_tys cI cB cZ) A) {rv : (Nat → Int32)} (hend : ∀ (pc : Nat) (H : Heap) (locs : List Loc) (ls : Array Slot), decode cX9_layOrder pc = .ok (.return_, 1) → sS D vwCl A s.heap (wd_X9_layOrder cI cB cZ a_this a_all a_kept a_isKept a_refused a_hand a_outs a_order0 a_bestOrder a_tells a_bytes a_anew a_values above below_ outs rv bytesLong tokenAt tokenLong token value) H locs → W p l e rm_X9_layOrder s m args below meth c H locs 0 0 Q (F0 m pc ls [])) (k_b37 : (Nat → Int32) → Int32 → Int32 → Int32 → Int32 → Int32 → Option ((Nat → Int32))) (hk_b37 : ∀ (order0 : (Nat → Int32)) (l2 : Int32) (l3 : Int32) (l4 : Int32) (l5 : Int32) (l6 : Int32) (H : Heap) (locs : List Loc) (ls : Array Slot), k_b37 order0 l2 l3 l4 l5 l6 = some rv → sS D vwCl A s.heap (wd_X9_layOrder cI cB cZ a_this a_all a_kept a_isKept a_refused a_hand a_outs a_order0 a_bestOrder a_tells a_bytes a_anew a_values above below_ outs order0 bytesLong tokenAt tokenLong token value) H locs → lv_has ls 9 [(0, .ref a_this), (2, .int l2), (3, .int l3), (4, .int l4), (5, .int l5), (6, .int l6)] → W p l e rm_X9_layOrder s m args below meth c H locs 0 0 Q (F0 m 37 ls [])) : ∀ (order0 : (Nat → Int32)) (l2 : Int32) (l3 : Int32) (l4 : Int32) (l6 : Int32) (l7 : Int32) (l8 : Int32) (t0 : Int32) (H : Heap) (locs : List Loc) (ls : Array Slot), f_X9_layOrder_b81 k_b37 outs order0 l2 l3 l4 l6 l7 l8 t0 = some rv → sS D vwCl A s.heap (wd_X9_layOrder cI cB cZ a_this a_all a_kept a_isKept a_refused a_hand a_outs a_order0 a_bestOrder a_tells a_bytes a_anew a_values above below_ outs order0 bytesLong tokenAt tokenLong token value) H locs → lv_has ls 9 [(0, .ref a_this), (2, .int l2), (3, .int l3), (4, .int l4), (6, .int l6), (7, .int l7), (8, .int l8)] → W p l e rm_X9_layOrder s m args below meth c H locs 0 0 Q (F0 m 81 ls [.int t0]) := by
  obtain ⟨hx, hb, hml, hown, hts, hK, hA⟩ := id C0
  have inX9 : ∀ w ∈ u_ws RX9 TX9 19, w ∈ wsX9_layOrder := inX9_X9_layOrder
  intro order0 l2 l3 l4 l6 l7 l8 t0 H locs ls h hS hl
  unfold f_X9_layOrder_b81 at h
  refine lv_istore (lv' := [(5, .int t0), (0, .ref a_this), (2, .int l2), (3, .int l3), (4, .int l4), (6, .int l6), (7, .int l7), (8, .int l8)]) hx hb dX9_layOrder_81 hl (by decide) rfl (fun ls hl => ?_)
  exact w_X9_layOrder_b83 C0 hend k_b37 hk_b37 s_fuel order0 l2 l3 l4 t0 l6 l7 l8 _ _ _ h hS (lv_sub hl [1, 2, 3, 4, 0, 5, 6, 7] rfl)
def f_X9_layOrder_b37  (outs : (Nat → Int32)) : Nat → (Nat → Int32) → Int32 → Int32 → Int32 → Int32 → Int32 → Option ((Nat → Int32))
  | 0, _, _, _, _, _, _ => none
  | fu + 1, order0, l2, l3, l4, l5, l6 => (if l2 ≤ l6 then some (order0) else (if ¬ l5 = 0 then (if ¬ l5 = 0 then (if (l2 - (2 : Int32)) ≤ l6 then f_X9_layOrder_b81 (f_X9_layOrder_b37 outs fu) outs order0 l2 l3 (l4 - l4 / l5 * l5) l6 (l4 / l5) (0 : Int32) (1 : Int32) else (if ¬ ((l2 - (1 : Int32)) - l6) = 0 then f_X9_layOrder_b81 (f_X9_layOrder_b37 outs fu) outs order0 l2 l3 (l4 - l4 / l5 * l5) l6 (l4 / l5) (0 : Int32) (l5 / ((l2 - (1 : Int32)) - l6)) else none)) else none) else none))
set_option maxHeartbeats 4000000 in
set_option maxRecDepth 100000 in
theorem w_X9_layOrder_b37 {p : Program} {l : Launch} {e : Env} {s : State} {m : MethodId} {args : Array Value} {below : List Frame} {meth : Method} {c : Code} {A : Nat → Prop} {Q : State → Prop} {D : va_G} {cI cB cZ : ClassId} {a_this a_all a_kept a_isKept a_refused a_hand a_outs a_order0 a_bestOrder a_tells a_bytes a_anew a_values : Nat} {above : Int64} {below_ : Int64} {outs : (Nat → Int32)} {bytesLong : Int32} {tokenAt : Int32} {tokenLong : Int32} {token : Int32} {value : Int32} (C0 : Cx p s m args c cX9_layOrder 9 RX9 wsX9_layOrder D (s_tys cI cB cZ) A) {rv : (Nat → Int32)} (hend : ∀ (pc : Nat) (H : Heap) (locs : List Loc) (ls : Array Slot), decode cX9_layOrder pc = .ok (.return_, 1) → sS D vwCl A s.heap (wd_X9_layOrder cI cB cZ a_this a_all a_kept a_isKept a_refused a_hand a_outs a_order0 a_bestOrder a_tells a_bytes a_anew a_values above below_ outs rv bytesLong tokenAt tokenLong token value) H locs → W p l e rm_X9_layOrder s m args below meth c H locs 0 0 Q (F0 m pc ls [])) : ∀ (fu : Nat) (order0 : (Nat → Int32)) (l2 : Int32) (l3 : Int32) (l4 : Int32) (l5 : Int32) (l6 : Int32) (H : Heap) (locs : List Loc) (ls : Array Slot), f_X9_layOrder_b37 outs fu order0 l2 l3 l4 l5 l6 = some rv → sS D vwCl A s.heap (wd_X9_layOrder cI cB cZ a_this a_all a_kept a_isKept a_refused a_hand a_outs a_order0 a_bestOrder a_tells a_bytes a_anew a_values above below_ outs order0 bytesLong tokenAt tokenLong token value) H locs → lv_has ls 9 [(0, .ref a_this), (2, .int l2), (3, .int l3), (4, .int l4), (5, .int l5), (6, .int l6)] → W p l e rm_X9_layOrder s m args below meth c H locs 0 0 Q (F0 m 37 ls []) := by
  obtain ⟨hx, hb, hml, hown, hts, hK, hA⟩ := id C0
  have inX9 : ∀ w ∈ u_ws RX9 TX9 19, w ∈ wsX9_layOrder := inX9_X9_layOrder
  intro fu
  induction fu with
  | zero => intro order0 l2 l3 l4 l5 l6 H locs ls h; cases h
  | succ fu ih =>
    intro order0 l2 l3 l4 l5 l6 H locs ls h hS hl
    rw [f_X9_layOrder_b37] at h
    refine lv_iload hx hb dX9_layOrder_37 (lv_at hl 5 rfl) ?_
    refine lv_iload_n hx hb dX9_layOrder_39 rfl (lv_at hl 1 rfl) ?_
    refine lv_icmp_ge (tgt := 151) hx hb dX9_layOrder_40 (by decide) (fun c8 => ?_) (fun c8 => ?_)
    · replace h := s_yes c8 h
      obtain rfl := Option.some.inj h
      exact hend _ _ _ _ dX9_layOrder_151 hS
    replace h := s_no c8 h
    refine lv_iload hx hb dX9_layOrder_43 (lv_at hl 3 rfl) ?_
    refine lv_iload hx hb dX9_layOrder_45 (lv_at hl 4 rfl) ?_
    obtain ⟨g9, h⟩ := s_guard h
    refine lv_idiv hx hb dX9_layOrder_47 g9 ?_
    refine lv_istore (lv' := [(7, .int (l4 / l5)), (0, .ref a_this), (2, .int l2), (3, .int l3), (4, .int l4), (5, .int l5), (6, .int l6)]) hx hb dX9_layOrder_48 hl (by decide) rfl (fun ls hl => ?_)
    refine lv_iconst (v := (0 : Int32)) hx hb dX9_layOrder_50 (by decide) ?_
    refine lv_istore (lv' := [(8, .int (0 : Int32)), (7, .int (l4 / l5)), (0, .ref a_this), (2, .int l2), (3, .int l3), (4, .int l4), (5, .int l5), (6, .int l6)]) hx hb dX9_layOrder_51 hl (by decide) rfl (fun ls hl => ?_)
    refine lv_iload hx hb dX9_layOrder_53 (lv_at hl 5 rfl) ?_
    refine lv_iload hx hb dX9_layOrder_55 (lv_at hl 6 rfl) ?_
    obtain ⟨g10, h⟩ := s_guard h
    refine lv_irem hx hb dX9_layOrder_57 g10 ?_
    refine lv_istore (lv' := [(4, .int (l4 - l4 / l5 * l5)), (8, .int (0 : Int32)), (7, .int (l4 / l5)), (0, .ref a_this), (2, .int l2), (3, .int l3), (5, .int l5), (6, .int l6)]) hx hb dX9_layOrder_58 hl (by decide) rfl (fun ls hl => ?_)
    refine lv_iload hx hb dX9_layOrder_60 (lv_at hl 7 rfl) ?_
    refine lv_iload_n hx hb dX9_layOrder_62 rfl (lv_at hl 4 rfl) ?_
    refine lv_iconst (v := (2 : Int32)) hx hb dX9_layOrder_63 (by decide) ?_
    refine lv_isub hx hb dX9_layOrder_64 ?_
    refine lv_icmp_ge (tgt := 80) hx hb dX9_layOrder_65 (by decide) (fun c11 => ?_) (fun c11 => ?_)
    · replace h := s_yes c11 h
      refine lv_iconst (v := (1 : Int32)) hx hb dX9_layOrder_80 (by decide) ?_
      exact w_X9_layOrder_b81 C0 hend (f_X9_layOrder_b37 outs fu) ih order0 l2 l3 (l4 - l4 / l5 * l5) l6 (l4 / l5) (0 : Int32) (1 : Int32) _ _ _ h hS (lv_sub hl [3, 4, 5, 0, 7, 2, 1] rfl)
    replace h := s_no c11 h
    refine lv_iload hx hb dX9_layOrder_68 (lv_at hl 6 rfl) ?_
    refine lv_iload_n hx hb dX9_layOrder_70 rfl (lv_at hl 4 rfl) ?_
    refine lv_iconst (v := (1 : Int32)) hx hb dX9_layOrder_71 (by decide) ?_
    refine lv_isub hx hb dX9_layOrder_72 ?_
    refine lv_iload hx hb dX9_layOrder_73 (lv_at hl 7 rfl) ?_
    refine lv_isub hx hb dX9_layOrder_75 ?_
    obtain ⟨g12, h⟩ := s_guard h
    refine lv_idiv hx hb dX9_layOrder_76 g12 ?_
    refine lv_goto (tgt := 81) hx hb dX9_layOrder_77 (by decide) ?_
    exact w_X9_layOrder_b81 C0 hend (f_X9_layOrder_b37 outs fu) ih order0 l2 l3 (l4 - l4 / l5 * l5) l6 (l4 / l5) (0 : Int32) (l5 / ((l2 - (1 : Int32)) - l6)) _ _ _ h hS (lv_sub hl [3, 4, 5, 0, 7, 2, 1] rfl)
def f_X9_layOrder_b15  (outs : (Nat → Int32)) : Nat → (Nat → Int32) → Int32 → Int32 → Int32 → Int32 → Int32 → Option ((Nat → Int32))
  | 0, _, _, _, _, _, _ => none
  | fu + 1, order0, l2, l3, l4, l5, l6 => (if l2 ≤ l6 then f_X9_layOrder_b37  outs s_fuel order0 l2 l3 l4 l5 (0 : Int32) else (f_X9_layOrder_b15 outs fu) order0 l2 l3 l4 (l5 * l6) (l6 + (1 : Int32)))
set_option maxHeartbeats 4000000 in
set_option maxRecDepth 100000 in
theorem w_X9_layOrder_b15 {p : Program} {l : Launch} {e : Env} {s : State} {m : MethodId} {args : Array Value} {below : List Frame} {meth : Method} {c : Code} {A : Nat → Prop} {Q : State → Prop} {D : va_G} {cI cB cZ : ClassId} {a_this a_all a_kept a_isKept a_refused a_hand a_outs a_order0 a_bestOrder a_tells a_bytes a_anew a_values : Nat} {above : Int64} {below_ : Int64} {outs : (Nat → Int32)} {bytesLong : Int32} {tokenAt : Int32} {tokenLong : Int32} {token : Int32} {value : Int32} (C0 : Cx p s m args c cX9_layOrder 9 RX9 wsX9_layOrder D (s_tys cI cB cZ) A) {rv : (Nat → Int32)} (hend : ∀ (pc : Nat) (H : Heap) (locs : List Loc) (ls : Array Slot), decode cX9_layOrder pc = .ok (.return_, 1) → sS D vwCl A s.heap (wd_X9_layOrder cI cB cZ a_this a_all a_kept a_isKept a_refused a_hand a_outs a_order0 a_bestOrder a_tells a_bytes a_anew a_values above below_ outs rv bytesLong tokenAt tokenLong token value) H locs → W p l e rm_X9_layOrder s m args below meth c H locs 0 0 Q (F0 m pc ls [])) : ∀ (fu : Nat) (order0 : (Nat → Int32)) (l2 : Int32) (l3 : Int32) (l4 : Int32) (l5 : Int32) (l6 : Int32) (H : Heap) (locs : List Loc) (ls : Array Slot), f_X9_layOrder_b15 outs fu order0 l2 l3 l4 l5 l6 = some rv → sS D vwCl A s.heap (wd_X9_layOrder cI cB cZ a_this a_all a_kept a_isKept a_refused a_hand a_outs a_order0 a_bestOrder a_tells a_bytes a_anew a_values above below_ outs order0 bytesLong tokenAt tokenLong token value) H locs → lv_has ls 9 [(0, .ref a_this), (2, .int l2), (3, .int l3), (4, .int l4), (5, .int l5), (6, .int l6)] → W p l e rm_X9_layOrder s m args below meth c H locs 0 0 Q (F0 m 15 ls []) := by
  obtain ⟨hx, hb, hml, hown, hts, hK, hA⟩ := id C0
  have inX9 : ∀ w ∈ u_ws RX9 TX9 19, w ∈ wsX9_layOrder := inX9_X9_layOrder
  intro fu
  induction fu with
  | zero => intro order0 l2 l3 l4 l5 l6 H locs ls h; cases h
  | succ fu ih =>
    intro order0 l2 l3 l4 l5 l6 H locs ls h hS hl
    rw [f_X9_layOrder_b15] at h
    refine lv_iload hx hb dX9_layOrder_15 (lv_at hl 5 rfl) ?_
    refine lv_iload_n hx hb dX9_layOrder_17 rfl (lv_at hl 1 rfl) ?_
    refine lv_icmp_ge (tgt := 34) hx hb dX9_layOrder_18 (by decide) (fun c13 => ?_) (fun c13 => ?_)
    · replace h := s_yes c13 h
      refine lv_iconst (v := (0 : Int32)) hx hb dX9_layOrder_34 (by decide) ?_
      refine lv_istore (lv' := [(6, .int (0 : Int32)), (0, .ref a_this), (2, .int l2), (3, .int l3), (4, .int l4), (5, .int l5)]) hx hb dX9_layOrder_35 hl (by decide) rfl (fun ls hl => ?_)
      exact w_X9_layOrder_b37 C0 hend  s_fuel order0 l2 l3 l4 l5 (0 : Int32) _ _ _ h hS (lv_sub hl [1, 2, 3, 4, 5, 0] rfl)
    replace h := s_no c13 h
    refine lv_iload hx hb dX9_layOrder_21 (lv_at hl 4 rfl) ?_
    refine lv_iload hx hb dX9_layOrder_23 (lv_at hl 5 rfl) ?_
    refine lv_imul hx hb dX9_layOrder_25 ?_
    refine lv_istore (lv' := [(5, .int (l5 * l6)), (0, .ref a_this), (2, .int l2), (3, .int l3), (4, .int l4), (6, .int l6)]) hx hb dX9_layOrder_26 hl (by decide) rfl (fun ls hl => ?_)
    refine lv_iinc (v := (l6 + (1 : Int32))) (lv' := [(6, .int (l6 + (1 : Int32))), (5, .int (l5 * l6)), (0, .ref a_this), (2, .int l2), (3, .int l3), (4, .int l4)]) hx hb dX9_layOrder_28 hl (k := 5) rfl rfl (by decide) rfl (fun ls hl => ?_)
    refine lv_goto (tgt := 15) hx hb dX9_layOrder_31 (by decide) ?_
    exact ih order0 l2 l3 l4 (l5 * l6) (l6 + (1 : Int32)) _ _ _ h hS (lv_sub hl [2, 3, 4, 5, 1, 0] rfl)
def f_X9_layOrder  (outs : (Nat → Int32)) (order0 : (Nat → Int32)) (p1 : Int32) (p2 : Int32) : Option ((Nat → Int32)) := f_X9_layOrder_b15  outs s_fuel order0 p2 (((1 : Int32) <<< (p2 &&& 31)) - (1 : Int32)) p1 (1 : Int32) (2 : Int32)
set_option maxHeartbeats 4000000 in
set_option maxRecDepth 100000 in
theorem c_X9_layOrder (l : Launch) (D : va_G) (cI cB cZ : ClassId) (a_this : Nat) (a_all : Nat) (a_kept : Nat) (a_isKept : Nat) (a_refused : Nat) (a_hand : Nat) (a_outs : Nat) (a_order0 : Nat) (a_bestOrder : Nat) (a_tells : Nat) (a_bytes : Nat) (a_anew : Nat) (a_values : Nat) (above : Int64) (below_ : Int64) (outs : (Nat → Int32)) (order0 : (Nat → Int32)) (bytesLong : Int32) (tokenAt : Int32) (tokenLong : Int32) (token : Int32) (value : Int32) (p1 : Int32) (p2 : Int32) (rv : (Nat → Int32)) (sz : Nat) (hf : f_X9_layOrder outs order0 p1 p2 = some rv) : Met l yX9_layOrder wsX9_layOrder rm_X9_layOrder (sPc D vwCl (s_tys cI cB cZ) [.ref a_this, .int p1, .int p2] (wd_X9_layOrder cI cB cZ a_this a_all a_kept a_isKept a_refused a_hand a_outs a_order0 a_bestOrder a_tells a_bytes a_anew a_values above below_ outs order0 bytesLong tokenAt tokenLong token value) sz) (sQv D vwCl (wd_X9_layOrder cI cB cZ a_this a_all a_kept a_isKept a_refused a_hand a_outs a_order0 a_bestOrder a_tells a_bytes a_anew a_values above below_ outs order0 bytesLong tokenAt tokenLong token value) (wd_X9_layOrder cI cB cZ a_this a_all a_kept a_isKept a_refused a_hand a_outs a_order0 a_bestOrder a_tells a_bytes a_anew a_values above below_ outs rv bytesLong tokenAt tokenLong token value) sz) 0 0 (va_A (wd_X9_layOrder cI cB cZ a_this a_all a_kept a_isKept a_refused a_hand a_outs a_order0 a_bestOrder a_tells a_bytes a_anew a_values above below_ outs order0 bytesLong tokenAt tokenLong token value) sz) := by
  refine s_enter_v (cc := cX9_layOrder) (nL := 9) (by decide) rfl (Nat.le_of_ble_eq_true rfl) ?_
  intro p e s m args below meth c A Q C0 hend ls hl hS
  have h := hf
  clear hf
  replace hl : lv_has ls 9 [(0, .ref a_this), (1, .int p1), (2, .int p2)] := hl
  unfold f_X9_layOrder at h
  obtain ⟨hx, hb, hml, hown, hts, hK, hA⟩ := id C0
  have inX9 : ∀ w ∈ u_ws RX9 TX9 19, w ∈ wsX9_layOrder := inX9_X9_layOrder
  refine lv_iconst (v := (1 : Int32)) hx hb dX9_layOrder_0 (by decide) ?_
  refine lv_iload_n hx hb dX9_layOrder_1 rfl (lv_at hl 2 rfl) ?_
  refine lv_ishl hx hb dX9_layOrder_2 ?_
  refine lv_iconst (v := (1 : Int32)) hx hb dX9_layOrder_3 (by decide) ?_
  refine lv_isub hx hb dX9_layOrder_4 ?_
  refine lv_istore_n (lv' := [(3, .int (((1 : Int32) <<< (p2 &&& 31)) - (1 : Int32))), (0, .ref a_this), (1, .int p1), (2, .int p2)]) hx hb dX9_layOrder_5 rfl hl (by decide) rfl (fun ls hl => ?_)
  refine lv_iload_n hx hb dX9_layOrder_6 rfl (lv_at hl 2 rfl) ?_
  refine lv_istore (lv' := [(4, .int p1), (3, .int (((1 : Int32) <<< (p2 &&& 31)) - (1 : Int32))), (0, .ref a_this), (1, .int p1), (2, .int p2)]) hx hb dX9_layOrder_7 hl (by decide) rfl (fun ls hl => ?_)
  refine lv_iconst (v := (1 : Int32)) hx hb dX9_layOrder_9 (by decide) ?_
  refine lv_istore (lv' := [(5, .int (1 : Int32)), (4, .int p1), (3, .int (((1 : Int32) <<< (p2 &&& 31)) - (1 : Int32))), (0, .ref a_this), (1, .int p1), (2, .int p2)]) hx hb dX9_layOrder_10 hl (by decide) rfl (fun ls hl => ?_)
  refine lv_iconst (v := (2 : Int32)) hx hb dX9_layOrder_12 (by decide) ?_
  refine lv_istore (lv' := [(6, .int (2 : Int32)), (5, .int (1 : Int32)), (4, .int p1), (3, .int (((1 : Int32) <<< (p2 &&& 31)) - (1 : Int32))), (0, .ref a_this), (1, .int p1), (2, .int p2)]) hx hb dX9_layOrder_13 hl (by decide) rfl (fun ls hl => ?_)
  exact w_X9_layOrder_b15 C0 hend  s_fuel order0 p2 (((1 : Int32) <<< (p2 &&& 31)) - (1 : Int32)) p1 (1 : Int32) (2 : Int32) _ _ _ h hS (lv_sub hl [4, 6, 3, 2, 1, 0] rfl)

-- InnTurnedModel.order(I)I
def wd_X9_order (cI cB cZ : ClassId) (a_this : Nat) (a_all : Nat) (a_kept : Nat) (a_isKept : Nat) (a_refused : Nat) (a_hand : Nat) (a_outs : Nat) (a_order0 : Nat) (a_bestOrder : Nat) (a_tells : Nat) (a_bytes : Nat) (a_anew : Nat) (a_values : Nat)  (all : (Nat → Int32)) (refused : (Nat → Int32)) (above : Int64) (below_ : Int64) (hand : (Nat → Int32)) (outs : (Nat → Int32)) (order0 : (Nat → Int32)) (bestOrder : (Nat → Int32)) (bytesLong : Int32) (tokenAt : Int32) (tokenLong : Int32) (token : Int32) (value : Int32) : va_W := [(a_this, .inr (6, [.ref a_all, .ref a_kept, .ref a_isKept, .ref a_refused, .long above, .long below_, .ref a_hand, .ref a_outs, .ref a_order0, .ref a_bestOrder, .ref a_tells, .ref a_bytes, .int bytesLong, .int tokenAt, .int tokenLong, .int token, .int value, .ref a_anew, .ref a_values])), (a_all, .inl (cI, 250, .inl all)), (a_refused, .inl (cI, 3, .inl refused)), (a_hand, .inl (cI, 38, .inl hand)), (a_outs, .inl (cI, 7, .inl outs)), (a_order0, .inl (cI, 7, .inl order0)), (a_bestOrder, .inl (cI, 7, .inl bestOrder))]
abbrev rm_X9_order : Room := { frames := 4, cells := 0, slots := 0, locals := 89 }
set_option maxRecDepth 20000 in
theorem inX9_X9_order : ∀ w ∈ u_ws RX9 TX9 19, w ∈ wsX9_order := by decide +kernel
def f_X9_order_b139 (k_b45 : (Nat → Int32) → (Nat → Int32) → (Nat → Int32) → (Nat → Int32) → (Nat → Int32) → Int32 → Int32 → Int32 → Int32 → Int32 → Option (Int32 × (Nat → Int32) × (Nat → Int32) × (Nat → Int32) × (Nat → Int32) × (Nat → Int32)))  (all : (Nat → Int32)) (refused : (Nat → Int32)) (hand : (Nat → Int32)) (outs : (Nat → Int32)) (order0 : (Nat → Int32)) (bestOrder : (Nat → Int32)) (l1 : Int32) (l2 : Int32) (l3 : Int32) (l4 : Int32) (l5 : Int32) : Option (Int32 × (Nat → Int32) × (Nat → Int32) × (Nat → Int32) × (Nat → Int32) × (Nat → Int32)) := k_b45 refused hand outs order0 bestOrder l1 l2 l3 l4 (l5 + (1 : Int32))
set_option maxHeartbeats 4000000 in
set_option maxRecDepth 100000 in
theorem w_X9_order_b139 {p : Program} {l : Launch} {e : Env} {s : State} {m : MethodId} {args : Array Value} {below : List Frame} {meth : Method} {c : Code} {A : Nat → Prop} {Q : State → Prop} {D : va_G} {cI cB cZ : ClassId} {a_this a_all a_kept a_isKept a_refused a_hand a_outs a_order0 a_bestOrder a_tells a_bytes a_anew a_values : Nat} {all : (Nat → Int32)} {above : Int64} {below_ : Int64} {bytesLong : Int32} {tokenAt : Int32} {tokenLong : Int32} {token : Int32} {value : Int32} (C0 : Cx p s m args c cX9_order 8 RX9 wsX9_order D (s_tys cI cB cZ) A) {rv : Int32 × (Nat → Int32) × (Nat → Int32) × (Nat → Int32) × (Nat → Int32) × (Nat → Int32)} (hend : ∀ (pc : Nat) (H : Heap) (locs : List Loc) (ls : Array Slot), decode cX9_order pc = .ok (.ireturn, 1) → sS D vwCl A s.heap (wd_X9_order cI cB cZ a_this a_all a_kept a_isKept a_refused a_hand a_outs a_order0 a_bestOrder a_tells a_bytes a_anew a_values all rv.2.1 above below_ rv.2.2.1 rv.2.2.2.1 rv.2.2.2.2.1 rv.2.2.2.2.2 bytesLong tokenAt tokenLong token value) H locs → W p l e rm_X9_order s m args below meth c H locs 0 0 Q (F0 m pc ls [.int rv.1])) (k_b45 : (Nat → Int32) → (Nat → Int32) → (Nat → Int32) → (Nat → Int32) → (Nat → Int32) → Int32 → Int32 → Int32 → Int32 → Int32 → Option (Int32 × (Nat → Int32) × (Nat → Int32) × (Nat → Int32) × (Nat → Int32) × (Nat → Int32))) (hk_b45 : ∀ (refused : (Nat → Int32)) (hand : (Nat → Int32)) (outs : (Nat → Int32)) (order0 : (Nat → Int32)) (bestOrder : (Nat → Int32)) (l1 : Int32) (l2 : Int32) (l3 : Int32) (l4 : Int32) (l5 : Int32) (H : Heap) (locs : List Loc) (ls : Array Slot), k_b45 refused hand outs order0 bestOrder l1 l2 l3 l4 l5 = some rv → sS D vwCl A s.heap (wd_X9_order cI cB cZ a_this a_all a_kept a_isKept a_refused a_hand a_outs a_order0 a_bestOrder a_tells a_bytes a_anew a_values all refused above below_ hand outs order0 bestOrder bytesLong tokenAt tokenLong token value) H locs → lv_has ls 8 [(0, .ref a_this), (1, .int l1), (2, .int l2), (3, .int l3), (4, .int l4), (5, .int l5)] → W p l e rm_X9_order s m args below meth c H locs 0 0 Q (F0 m 45 ls [])) : ∀ (refused : (Nat → Int32)) (hand : (Nat → Int32)) (outs : (Nat → Int32)) (order0 : (Nat → Int32)) (bestOrder : (Nat → Int32)) (l1 : Int32) (l2 : Int32) (l3 : Int32) (l4 : Int32) (l5 : Int32) (H : Heap) (locs : List Loc) (ls : Array Slot), f_X9_order_b139 k_b45 all refused hand outs order0 bestOrder l1 l2 l3 l4 l5 = some rv → sS D vwCl A s.heap (wd_X9_order cI cB cZ a_this a_all a_kept a_isKept a_refused a_hand a_outs a_order0 a_bestOrder a_tells a_bytes a_anew a_values all refused above below_ hand outs order0 bestOrder bytesLong tokenAt tokenLong token value) H locs → lv_has ls 8 [(0, .ref a_this), (1, .int l1), (2, .int l2), (3, .int l3), (4, .int l4), (5, .int l5)] → W p l e rm_X9_order s m args below meth c H locs 0 0 Q (F0 m 139 ls []) := by
  obtain ⟨hx, hb, hml, hown, hts, hK, hA⟩ := id C0
  have inX9 : ∀ w ∈ u_ws RX9 TX9 19, w ∈ wsX9_order := inX9_X9_order
  intro refused hand outs order0 bestOrder l1 l2 l3 l4 l5 H locs ls h hS hl
  unfold f_X9_order_b139 at h
  refine lv_iinc (v := (l5 + (1 : Int32))) (lv' := [(5, .int (l5 + (1 : Int32))), (0, .ref a_this), (1, .int l1), (2, .int l2), (3, .int l3), (4, .int l4)]) hx hb dX9_order_139 hl (k := 5) rfl rfl (by decide) rfl (fun ls hl => ?_)
  refine lv_goto (tgt := 45) hx hb dX9_order_142 (by decide) ?_
  exact hk_b45 refused hand outs order0 bestOrder l1 l2 l3 l4 (l5 + (1 : Int32)) _ _ _ h hS (lv_sub hl [1, 2, 3, 4, 5, 0] rfl)
def f_X9_order_b113 (k_b45 : (Nat → Int32) → (Nat → Int32) → (Nat → Int32) → (Nat → Int32) → (Nat → Int32) → Int32 → Int32 → Int32 → Int32 → Int32 → Option (Int32 × (Nat → Int32) × (Nat → Int32) × (Nat → Int32) × (Nat → Int32) × (Nat → Int32)))  (all : (Nat → Int32)) : Nat → (Nat → Int32) → (Nat → Int32) → (Nat → Int32) → (Nat → Int32) → (Nat → Int32) → Int32 → Int32 → Int32 → Int32 → Int32 → Int32 → Option (Int32 × (Nat → Int32) × (Nat → Int32) × (Nat → Int32) × (Nat → Int32) × (Nat → Int32))
  | 0, _, _, _, _, _, _, _, _, _, _, _ => none
  | fu + 1, refused, hand, outs, order0, bestOrder, l1, l2, l3, l4, l5, l7 => (if l2 ≤ l7 then f_X9_order_b139 k_b45 all refused hand outs order0 bestOrder l1 l2 l3 l4 l5 else (if ¬ (l7 < 0 ∨ 7 ≤ (Int32.toNatClampNeg l7)) then (if ¬ (l7 < 0 ∨ 7 ≤ (Int32.toNatClampNeg l7)) then (f_X9_order_b113 k_b45 all fu) refused hand outs order0 (upd bestOrder (Int32.toNatClampNeg l7) (order0 (Int32.toNatClampNeg l7))) l1 l2 l3 l4 l5 (l7 + (1 : Int32)) else none) else none))
set_option maxHeartbeats 4000000 in
set_option maxRecDepth 100000 in
theorem w_X9_order_b113 {p : Program} {l : Launch} {e : Env} {s : State} {m : MethodId} {args : Array Value} {below : List Frame} {meth : Method} {c : Code} {A : Nat → Prop} {Q : State → Prop} {D : va_G} {cI cB cZ : ClassId} {a_this a_all a_kept a_isKept a_refused a_hand a_outs a_order0 a_bestOrder a_tells a_bytes a_anew a_values : Nat} {all : (Nat → Int32)} {above : Int64} {below_ : Int64} {bytesLong : Int32} {tokenAt : Int32} {tokenLong : Int32} {token : Int32} {value : Int32} (C0 : Cx p s m args c cX9_order 8 RX9 wsX9_order D (s_tys cI cB cZ) A) {rv : Int32 × (Nat → Int32) × (Nat → Int32) × (Nat → Int32) × (Nat → Int32) × (Nat → Int32)} (hend : ∀ (pc : Nat) (H : Heap) (locs : List Loc) (ls : Array Slot), decode cX9_order pc = .ok (.ireturn, 1) → sS D vwCl A s.heap (wd_X9_order cI cB cZ a_this a_all a_kept a_isKept a_refused a_hand a_outs a_order0 a_bestOrder a_tells a_bytes a_anew a_values all rv.2.1 above below_ rv.2.2.1 rv.2.2.2.1 rv.2.2.2.2.1 rv.2.2.2.2.2 bytesLong tokenAt tokenLong token value) H locs → W p l e rm_X9_order s m args below meth c H locs 0 0 Q (F0 m pc ls [.int rv.1])) (k_b45 : (Nat → Int32) → (Nat → Int32) → (Nat → Int32) → (Nat → Int32) → (Nat → Int32) → Int32 → Int32 → Int32 → Int32 → Int32 → Option (Int32 × (Nat → Int32) × (Nat → Int32) × (Nat → Int32) × (Nat → Int32) × (Nat → Int32))) (hk_b45 : ∀ (refused : (Nat → Int32)) (hand : (Nat → Int32)) (outs : (Nat → Int32)) (order0 : (Nat → Int32)) (bestOrder : (Nat → Int32)) (l1 : Int32) (l2 : Int32) (l3 : Int32) (l4 : Int32) (l5 : Int32) (H : Heap) (locs : List Loc) (ls : Array Slot), k_b45 refused hand outs order0 bestOrder l1 l2 l3 l4 l5 = some rv → sS D vwCl A s.heap (wd_X9_order cI cB cZ a_this a_all a_kept a_isKept a_refused a_hand a_outs a_order0 a_bestOrder a_tells a_bytes a_anew a_values all refused above below_ hand outs order0 bestOrder bytesLong tokenAt tokenLong token value) H locs → lv_has ls 8 [(0, .ref a_this), (1, .int l1), (2, .int l2), (3, .int l3), (4, .int l4), (5, .int l5)] → W p l e rm_X9_order s m args below meth c H locs 0 0 Q (F0 m 45 ls [])) : ∀ (fu : Nat) (refused : (Nat → Int32)) (hand : (Nat → Int32)) (outs : (Nat → Int32)) (order0 : (Nat → Int32)) (bestOrder : (Nat → Int32)) (l1 : Int32) (l2 : Int32) (l3 : Int32) (l4 : Int32) (l5 : Int32) (l7 : Int32) (H : Heap) (locs : List Loc) (ls : Array Slot), f_X9_order_b113 k_b45 all fu refused hand outs order0 bestOrder l1 l2 l3 l4 l5 l7 = some rv → sS D vwCl A s.heap (wd_X9_order cI cB cZ a_this a_all a_kept a_isKept a_refused a_hand a_outs a_order0 a_bestOrder a_tells a_bytes a_anew a_values all refused above below_ hand outs order0 bestOrder bytesLong tokenAt tokenLong token value) H locs → lv_has ls 8 [(0, .ref a_this), (1, .int l1), (2, .int l2), (3, .int l3), (4, .int l4), (5, .int l5), (7, .int l7)] → W p l e rm_X9_order s m args below meth c H locs 0 0 Q (F0 m 113 ls []) := by
  obtain ⟨hx, hb, hml, hown, hts, hK, hA⟩ := id C0
  have inX9 : ∀ w ∈ u_ws RX9 TX9 19, w ∈ wsX9_order := inX9_X9_order
  intro fu
  induction fu with
  | zero => intro refused hand outs order0 bestOrder l1 l2 l3 l4 l5 l7 H locs ls h; cases h
  | succ fu ih =>
    intro refused hand outs order0 bestOrder l1 l2 l3 l4 l5 l7 H locs ls h hS hl
    rw [f_X9_order_b113] at h
    refine lv_iload hx hb dX9_order_113 (lv_at hl 6 rfl) ?_
    refine lv_iload_n hx hb dX9_order_115 rfl (lv_at hl 2 rfl) ?_
    refine lv_icmp_ge (tgt := 139) hx hb dX9_order_116 (by decide) (fun c1 => ?_) (fun c1 => ?_)
    · replace h := s_yes c1 h
      exact w_X9_order_b139 C0 hend k_b45 hk_b45 refused hand outs order0 bestOrder l1 l2 l3 l4 l5 _ _ _ h hS (lv_sub hl [0, 1, 2, 3, 4, 5] rfl)
    replace h := s_no c1 h
    refine lv_aload_n hx hb dX9_order_119 rfl (lv_at hl 0 rfl) ?_
    refine s_get (C := RX9) (T := TX9) (N := 19) hx hb hts inX9 hown hK hS 0 rfl rfl 9 (by decide) (hts (.fieldLink RX9 36 "InnTurnedModel" "bestOrder" "[I") (List.mem_of_getElem? (i := 3) rfl)) rfl rfl dX9_order_120 ?_
    refine lv_iload hx hb dX9_order_123 (lv_at hl 6 rfl) ?_
    refine lv_aload_n hx hb dX9_order_125 rfl (lv_at hl 0 rfl) ?_
    refine s_get (C := RX9) (T := TX9) (N := 19) hx hb hts inX9 hown hK hS 0 rfl rfl 8 (by decide) (hts (.fieldLink RX9 33 "InnTurnedModel" "order0" "[I") (List.mem_of_getElem? (i := 2) rfl)) rfl rfl dX9_order_126 ?_
    refine lv_iload hx hb dX9_order_129 (lv_at hl 6 rfl) ?_
    obtain ⟨g2, h⟩ := s_guard h
    refine s_iald hx hb hK hS 5 rfl rfl g2 dX9_order_131 ?_
    obtain ⟨g3, h⟩ := s_guard h
    refine s_iast (ws' := (wd_X9_order cI cB cZ a_this a_all a_kept a_isKept a_refused a_hand a_outs a_order0 a_bestOrder a_tells a_bytes a_anew a_values all refused above below_ hand outs order0 (upd bestOrder (Int32.toNatClampNeg l7) (order0 (Int32.toNatClampNeg l7))) bytesLong tokenAt tokenLong token value)) hx hb hK hS 6 rfl rfl g3 rfl dX9_order_132 (fun H locs hS => ?_)
    refine lv_iinc (v := (l7 + (1 : Int32))) (lv' := [(7, .int (l7 + (1 : Int32))), (0, .ref a_this), (1, .int l1), (2, .int l2), (3, .int l3), (4, .int l4), (5, .int l5)]) hx hb dX9_order_133 hl (k := 6) rfl rfl (by decide) rfl (fun ls hl => ?_)
    refine lv_goto (tgt := 113) hx hb dX9_order_136 (by decide) ?_
    exact ih refused hand outs order0 (upd bestOrder (Int32.toNatClampNeg l7) (order0 (Int32.toNatClampNeg l7))) l1 l2 l3 l4 l5 (l7 + (1 : Int32)) _ _ _ h hS (lv_sub hl [1, 2, 3, 4, 5, 6, 0] rfl)
def f_X9_order_b68 (k_b45 : (Nat → Int32) → (Nat → Int32) → (Nat → Int32) → (Nat → Int32) → (Nat → Int32) → Int32 → Int32 → Int32 → Int32 → Int32 → Option (Int32 × (Nat → Int32) × (Nat → Int32) × (Nat → Int32) × (Nat → Int32) × (Nat → Int32)))  (all : (Nat → Int32)) : Nat → (Nat → Int32) → (Nat → Int32) → (Nat → Int32) → (Nat → Int32) → (Nat → Int32) → Int32 → Int32 → Int32 → Int32 → Int32 → Int32 → Int32 → Option (Int32 × (Nat → Int32) × (Nat → Int32) × (Nat → Int32) × (Nat → Int32) × (Nat → Int32))
  | 0, _, _, _, _, _, _, _, _, _, _, _, _ => none
  | fu + 1, refused, hand, outs, order0, bestOrder, l1, l2, l3, l4, l5, l6, l7 => (if l2 ≤ l7 then (if l6 ≤ l4 then f_X9_order_b139 k_b45 all refused hand outs order0 bestOrder l1 l2 l3 l4 l5 else f_X9_order_b113 k_b45 all s_fuel refused hand outs order0 bestOrder l1 l2 l3 l6 l5 (0 : Int32)) else (if ¬ (l7 < 0 ∨ 7 ≤ (Int32.toNatClampNeg l7)) then ((f_X9_goCome 38 hand (order0 (Int32.toNatClampNeg l7))).bind fun q7 => (f_X9_order_b68 k_b45 all fu) refused q7.2 outs order0 bestOrder l1 l2 l3 l4 l5 (l6 + q7.1) (l7 + (1 : Int32))) else none))
set_option maxHeartbeats 4000000 in
set_option maxRecDepth 100000 in
theorem w_X9_order_b68 {p : Program} {l : Launch} {e : Env} {s : State} {m : MethodId} {args : Array Value} {below : List Frame} {meth : Method} {c : Code} {A : Nat → Prop} {Q : State → Prop} {D : va_G} {cI cB cZ : ClassId} {a_this a_all a_kept a_isKept a_refused a_hand a_outs a_order0 a_bestOrder a_tells a_bytes a_anew a_values : Nat} {all : (Nat → Int32)} {above : Int64} {below_ : Int64} {bytesLong : Int32} {tokenAt : Int32} {tokenLong : Int32} {token : Int32} {value : Int32} (C0 : Cx p s m args c cX9_order 8 RX9 wsX9_order D (s_tys cI cB cZ) A) {rv : Int32 × (Nat → Int32) × (Nat → Int32) × (Nat → Int32) × (Nat → Int32) × (Nat → Int32)} (hend : ∀ (pc : Nat) (H : Heap) (locs : List Loc) (ls : Array Slot), decode cX9_order pc = .ok (.ireturn, 1) → sS D vwCl A s.heap (wd_X9_order cI cB cZ a_this a_all a_kept a_isKept a_refused a_hand a_outs a_order0 a_bestOrder a_tells a_bytes a_anew a_values all rv.2.1 above below_ rv.2.2.1 rv.2.2.2.1 rv.2.2.2.2.1 rv.2.2.2.2.2 bytesLong tokenAt tokenLong token value) H locs → W p l e rm_X9_order s m args below meth c H locs 0 0 Q (F0 m pc ls [.int rv.1])) (k_b45 : (Nat → Int32) → (Nat → Int32) → (Nat → Int32) → (Nat → Int32) → (Nat → Int32) → Int32 → Int32 → Int32 → Int32 → Int32 → Option (Int32 × (Nat → Int32) × (Nat → Int32) × (Nat → Int32) × (Nat → Int32) × (Nat → Int32))) (hk_b45 : ∀ (refused : (Nat → Int32)) (hand : (Nat → Int32)) (outs : (Nat → Int32)) (order0 : (Nat → Int32)) (bestOrder : (Nat → Int32)) (l1 : Int32) (l2 : Int32) (l3 : Int32) (l4 : Int32) (l5 : Int32) (H : Heap) (locs : List Loc) (ls : Array Slot), k_b45 refused hand outs order0 bestOrder l1 l2 l3 l4 l5 = some rv → sS D vwCl A s.heap (wd_X9_order cI cB cZ a_this a_all a_kept a_isKept a_refused a_hand a_outs a_order0 a_bestOrder a_tells a_bytes a_anew a_values all refused above below_ hand outs order0 bestOrder bytesLong tokenAt tokenLong token value) H locs → lv_has ls 8 [(0, .ref a_this), (1, .int l1), (2, .int l2), (3, .int l3), (4, .int l4), (5, .int l5)] → W p l e rm_X9_order s m args below meth c H locs 0 0 Q (F0 m 45 ls [])) : ∀ (fu : Nat) (refused : (Nat → Int32)) (hand : (Nat → Int32)) (outs : (Nat → Int32)) (order0 : (Nat → Int32)) (bestOrder : (Nat → Int32)) (l1 : Int32) (l2 : Int32) (l3 : Int32) (l4 : Int32) (l5 : Int32) (l6 : Int32) (l7 : Int32) (H : Heap) (locs : List Loc) (ls : Array Slot), f_X9_order_b68 k_b45 all fu refused hand outs order0 bestOrder l1 l2 l3 l4 l5 l6 l7 = some rv → sS D vwCl A s.heap (wd_X9_order cI cB cZ a_this a_all a_kept a_isKept a_refused a_hand a_outs a_order0 a_bestOrder a_tells a_bytes a_anew a_values all refused above below_ hand outs order0 bestOrder bytesLong tokenAt tokenLong token value) H locs → lv_has ls 8 [(0, .ref a_this), (1, .int l1), (2, .int l2), (3, .int l3), (4, .int l4), (5, .int l5), (6, .int l6), (7, .int l7)] → W p l e rm_X9_order s m args below meth c H locs 0 0 Q (F0 m 68 ls []) := by
  obtain ⟨hx, hb, hml, hown, hts, hK, hA⟩ := id C0
  have inX9 : ∀ w ∈ u_ws RX9 TX9 19, w ∈ wsX9_order := inX9_X9_order
  intro fu
  induction fu with
  | zero => intro refused hand outs order0 bestOrder l1 l2 l3 l4 l5 l6 l7 H locs ls h; cases h
  | succ fu ih =>
    intro refused hand outs order0 bestOrder l1 l2 l3 l4 l5 l6 l7 H locs ls h hS hl
    rw [f_X9_order_b68] at h
    refine lv_iload hx hb dX9_order_68 (lv_at hl 7 rfl) ?_
    refine lv_iload_n hx hb dX9_order_70 rfl (lv_at hl 2 rfl) ?_
    refine lv_icmp_ge (tgt := 99) hx hb dX9_order_71 (by decide) (fun c4 => ?_) (fun c4 => ?_)
    · replace h := s_yes c4 h
      refine lv_iload hx hb dX9_order_99 (lv_at hl 6 rfl) ?_
      refine lv_iload hx hb dX9_order_101 (lv_at hl 4 rfl) ?_
      refine lv_icmp_le (tgt := 139) hx hb dX9_order_103 (by decide) (fun c5 => ?_) (fun c5 => ?_)
      · replace h := s_yes c5 h
        exact w_X9_order_b139 C0 hend k_b45 hk_b45 refused hand outs order0 bestOrder l1 l2 l3 l4 l5 _ _ _ h hS (lv_sub hl [0, 1, 2, 3, 4, 5] rfl)
      replace h := s_no c5 h
      refine lv_iload hx hb dX9_order_106 (lv_at hl 6 rfl) ?_
      refine lv_istore (lv' := [(4, .int l6), (0, .ref a_this), (1, .int l1), (2, .int l2), (3, .int l3), (5, .int l5), (6, .int l6), (7, .int l7)]) hx hb dX9_order_108 hl (by decide) rfl (fun ls hl => ?_)
      refine lv_iconst (v := (0 : Int32)) hx hb dX9_order_110 (by decide) ?_
      refine lv_istore (lv' := [(7, .int (0 : Int32)), (4, .int l6), (0, .ref a_this), (1, .int l1), (2, .int l2), (3, .int l3), (5, .int l5), (6, .int l6)]) hx hb dX9_order_111 hl (by decide) rfl (fun ls hl => ?_)
      exact w_X9_order_b113 C0 hend k_b45 hk_b45 s_fuel refused hand outs order0 bestOrder l1 l2 l3 l6 l5 (0 : Int32) _ _ _ h hS (lv_sub hl [2, 3, 4, 5, 1, 6, 0] rfl)
    replace h := s_no c4 h
    refine lv_iload hx hb dX9_order_74 (lv_at hl 6 rfl) ?_
    refine lv_aload_n hx hb dX9_order_76 rfl (lv_at hl 0 rfl) ?_
    refine s_get (C := RX9) (T := TX9) (N := 19) hx hb hts inX9 hown hK hS 0 rfl rfl 6 (by decide) (hts (.fieldLink RX9 27 "InnTurnedModel" "hand" "[I") (List.mem_of_getElem? (i := 1) rfl)) rfl rfl dX9_order_77 ?_
    refine lv_aload_n hx hb dX9_order_80 rfl (lv_at hl 0 rfl) ?_
    refine s_get (C := RX9) (T := TX9) (N := 19) hx hb hts inX9 hown hK hS 0 rfl rfl 8 (by decide) (hts (.fieldLink RX9 33 "InnTurnedModel" "order0" "[I") (List.mem_of_getElem? (i := 2) rfl)) rfl rfl dX9_order_81 ?_
    refine lv_iload hx hb dX9_order_84 (lv_at hl 7 rfl) ?_
    obtain ⟨g6, h⟩ := s_guard h
    refine s_iald hx hb hK hS 5 rfl rfl g6 dX9_order_86 ?_
    obtain ⟨q7, hq7, h⟩ := s_bind h
    refine r_calliS (r := q7.1) (As := [.ref a_hand, .int (order0 (Int32.toNatClampNeg l7))]) (rest := [.int l6]) (wc := (wd_X9_goCome cI cB cZ a_hand 38 hand)) (w1 := (wd_X9_goCome cI cB cZ a_hand 38 q7.2)) (ws' := (wd_X9_order cI cB cZ a_this a_all a_kept a_isKept a_refused a_hand a_outs a_order0 a_bestOrder a_tells a_bytes a_anew a_values all refused above below_ q7.2 outs order0 bestOrder bytesLong tokenAt tokenLong token value)) hx hb hml hown hts hK hA hl hS (c_X9_goCome l D cI cB cZ a_hand 38 hand (order0 (Int32.toNatClampNeg l7)) _ _ hq7) (va_cwS 2 hts gX9_order_X9_goCome rfl rfl rfl (by decide +kernel) ⟨Nat.le_of_ble_eq_true rfl, Nat.le_of_ble_eq_true rfl⟩) [3] rfl rfl rfl [.inl 0, .inl 1, .inl 2, .inr 0, .inl 4, .inl 5, .inl 6] rfl rfl rfl rfl (Nat.le_of_ble_eq_true rfl) dX9_order_87 (fun H locs hS => ?_)
    refine lv_iadd hx hb dX9_order_90 ?_
    refine lv_istore (lv' := [(6, .int (l6 + q7.1)), (0, .ref a_this), (1, .int l1), (2, .int l2), (3, .int l3), (4, .int l4), (5, .int l5), (7, .int l7)]) hx hb dX9_order_91 hl (by decide) rfl (fun ls hl => ?_)
    refine lv_iinc (v := (l7 + (1 : Int32))) (lv' := [(7, .int (l7 + (1 : Int32))), (6, .int (l6 + q7.1)), (0, .ref a_this), (1, .int l1), (2, .int l2), (3, .int l3), (4, .int l4), (5, .int l5)]) hx hb dX9_order_93 hl (k := 7) rfl rfl (by decide) rfl (fun ls hl => ?_)
    refine lv_goto (tgt := 68) hx hb dX9_order_96 (by decide) ?_
    exact ih refused q7.2 outs order0 bestOrder l1 l2 l3 l4 l5 (l6 + q7.1) (l7 + (1 : Int32)) _ _ _ h hS (lv_sub hl [2, 3, 4, 5, 6, 7, 1, 0] rfl)
def f_X9_order_b45  (all : (Nat → Int32)) : Nat → (Nat → Int32) → (Nat → Int32) → (Nat → Int32) → (Nat → Int32) → (Nat → Int32) → Int32 → Int32 → Int32 → Int32 → Int32 → Option (Int32 × (Nat → Int32) × (Nat → Int32) × (Nat → Int32) × (Nat → Int32) × (Nat → Int32))
  | 0, _, _, _, _, _, _, _, _, _, _ => none
  | fu + 1, refused, hand, outs, order0, bestOrder, l1, l2, l3, l4, l5 => (if l3 ≤ l5 then (if l1 = (-1 : Int32) then some (l4, refused, hand, outs, order0, bestOrder) else (if l1 < l2 then (if ¬ (l1 < 0 ∨ 7 ≤ (Int32.toNatClampNeg l1)) then some ((bestOrder (Int32.toNatClampNeg l1)), refused, hand, outs, order0, bestOrder) else none) else some ((-5 : Int32), refused, hand, outs, order0, bestOrder))) else ((f_X9_layOrder outs order0 l5 l2).bind fun q12 => ((f_X9_layHand all hand).bind fun q13 => f_X9_order_b68 (f_X9_order_b45 all fu) all s_fuel refused q13 outs q12 bestOrder l1 l2 l3 l4 l5 (0 : Int32) (0 : Int32))))
set_option maxHeartbeats 4000000 in
set_option maxRecDepth 100000 in
theorem w_X9_order_b45 {p : Program} {l : Launch} {e : Env} {s : State} {m : MethodId} {args : Array Value} {below : List Frame} {meth : Method} {c : Code} {A : Nat → Prop} {Q : State → Prop} {D : va_G} {cI cB cZ : ClassId} {a_this a_all a_kept a_isKept a_refused a_hand a_outs a_order0 a_bestOrder a_tells a_bytes a_anew a_values : Nat} {all : (Nat → Int32)} {above : Int64} {below_ : Int64} {bytesLong : Int32} {tokenAt : Int32} {tokenLong : Int32} {token : Int32} {value : Int32} (C0 : Cx p s m args c cX9_order 8 RX9 wsX9_order D (s_tys cI cB cZ) A) {rv : Int32 × (Nat → Int32) × (Nat → Int32) × (Nat → Int32) × (Nat → Int32) × (Nat → Int32)} (hend : ∀ (pc : Nat) (H : Heap) (locs : List Loc) (ls : Array Slot), decode cX9_order pc = .ok (.ireturn, 1) → sS D vwCl A s.heap (wd_X9_order cI cB cZ a_this a_all a_kept a_isKept a_refused a_hand a_outs a_order0 a_bestOrder a_tells a_bytes a_anew a_values all rv.2.1 above below_ rv.2.2.1 rv.2.2.2.1 rv.2.2.2.2.1 rv.2.2.2.2.2 bytesLong tokenAt tokenLong token value) H locs → W p l e rm_X9_order s m args below meth c H locs 0 0 Q (F0 m pc ls [.int rv.1])) : ∀ (fu : Nat) (refused : (Nat → Int32)) (hand : (Nat → Int32)) (outs : (Nat → Int32)) (order0 : (Nat → Int32)) (bestOrder : (Nat → Int32)) (l1 : Int32) (l2 : Int32) (l3 : Int32) (l4 : Int32) (l5 : Int32) (H : Heap) (locs : List Loc) (ls : Array Slot), f_X9_order_b45 all fu refused hand outs order0 bestOrder l1 l2 l3 l4 l5 = some rv → sS D vwCl A s.heap (wd_X9_order cI cB cZ a_this a_all a_kept a_isKept a_refused a_hand a_outs a_order0 a_bestOrder a_tells a_bytes a_anew a_values all refused above below_ hand outs order0 bestOrder bytesLong tokenAt tokenLong token value) H locs → lv_has ls 8 [(0, .ref a_this), (1, .int l1), (2, .int l2), (3, .int l3), (4, .int l4), (5, .int l5)] → W p l e rm_X9_order s m args below meth c H locs 0 0 Q (F0 m 45 ls []) := by
  obtain ⟨hx, hb, hml, hown, hts, hK, hA⟩ := id C0
  have inX9 : ∀ w ∈ u_ws RX9 TX9 19, w ∈ wsX9_order := inX9_X9_order
  intro fu
  induction fu with
  | zero => intro refused hand outs order0 bestOrder l1 l2 l3 l4 l5 H locs ls h; cases h
  | succ fu ih =>
    intro refused hand outs order0 bestOrder l1 l2 l3 l4 l5 H locs ls h hS hl
    rw [f_X9_order_b45] at h
    refine lv_iload hx hb dX9_order_45 (lv_at hl 5 rfl) ?_
    refine lv_iload_n hx hb dX9_order_47 rfl (lv_at hl 3 rfl) ?_
    refine lv_icmp_ge (tgt := 145) hx hb dX9_order_48 (by decide) (fun c8 => ?_) (fun c8 => ?_)
    · replace h := s_yes c8 h
      refine lv_iload_n hx hb dX9_order_145 rfl (lv_at hl 1 rfl) ?_
      refine lv_iconst (v := (-1 : Int32)) hx hb dX9_order_146 (by decide) ?_
      refine lv_icmp_ne (tgt := 155) hx hb dX9_order_147 (by decide) (fun c9 => ?_) (fun c9 => ?_)
      · replace h := s_no c9 h
        refine lv_iload_n hx hb dX9_order_155 rfl (lv_at hl 1 rfl) ?_
        refine lv_iload_n hx hb dX9_order_156 rfl (lv_at hl 2 rfl) ?_
        refine lv_icmp_lt (tgt := 165) hx hb dX9_order_157 (by decide) (fun c10 => ?_) (fun c10 => ?_)
        · replace h := s_yes c10 h
          refine lv_aload_n hx hb dX9_order_165 rfl (lv_at hl 0 rfl) ?_
          refine s_get (C := RX9) (T := TX9) (N := 19) hx hb hts inX9 hown hK hS 0 rfl rfl 9 (by decide) (hts (.fieldLink RX9 36 "InnTurnedModel" "bestOrder" "[I") (List.mem_of_getElem? (i := 3) rfl)) rfl rfl dX9_order_166 ?_
          refine lv_iload_n hx hb dX9_order_169 rfl (lv_at hl 1 rfl) ?_
          obtain ⟨g11, h⟩ := s_guard h
          refine s_iald hx hb hK hS 6 rfl rfl g11 dX9_order_170 ?_
          obtain rfl := Option.some.inj h
          exact hend _ _ _ _ dX9_order_171 hS
        replace h := s_no c10 h
        refine lv_bipush (v := (-5 : Int32)) hx hb dX9_order_160 (by decide) ?_
        refine lv_goto (tgt := 171) hx hb dX9_order_162 (by decide) ?_
        obtain rfl := Option.some.inj h
        exact hend _ _ _ _ dX9_order_171 hS
      replace h := s_yes c9 h
      refine lv_iload hx hb dX9_order_150 (lv_at hl 4 rfl) ?_
      refine lv_goto (tgt := 171) hx hb dX9_order_152 (by decide) ?_
      obtain rfl := Option.some.inj h
      exact hend _ _ _ _ dX9_order_171 hS
    replace h := s_no c8 h
    refine lv_iconst (v := (0 : Int32)) hx hb dX9_order_51 (by decide) ?_
    refine lv_istore (lv' := [(6, .int (0 : Int32)), (0, .ref a_this), (1, .int l1), (2, .int l2), (3, .int l3), (4, .int l4), (5, .int l5)]) hx hb dX9_order_52 hl (by decide) rfl (fun ls hl => ?_)
    refine lv_aload_n hx hb dX9_order_54 rfl (lv_at hl 1 rfl) ?_
    refine lv_iload hx hb dX9_order_55 (lv_at hl 6 rfl) ?_
    refine lv_iload_n hx hb dX9_order_57 rfl (lv_at hl 3 rfl) ?_
    obtain ⟨q12, hq12, h⟩ := s_bind h
    refine r_callvV (As := [.int l5, .int l2]) (rest := []) (wc := (wd_X9_layOrder cI cB cZ a_this a_all a_kept a_isKept a_refused a_hand a_outs a_order0 a_bestOrder a_tells a_bytes a_anew a_values above below_ outs order0 bytesLong tokenAt tokenLong token value)) (w1 := (wd_X9_layOrder cI cB cZ a_this a_all a_kept a_isKept a_refused a_hand a_outs a_order0 a_bestOrder a_tells a_bytes a_anew a_values above below_ outs q12 bytesLong tokenAt tokenLong token value)) (ws' := (wd_X9_order cI cB cZ a_this a_all a_kept a_isKept a_refused a_hand a_outs a_order0 a_bestOrder a_tells a_bytes a_anew a_values all refused above below_ hand outs q12 bestOrder bytesLong tokenAt tokenLong token value)) hx hb hml hown hts hK hA hl hS (c_X9_layOrder l D cI cB cZ a_this a_all a_kept a_isKept a_refused a_hand a_outs a_order0 a_bestOrder a_tells a_bytes a_anew a_values above below_ outs order0 bytesLong tokenAt tokenLong token value l5 l2 _ _ hq12) (cwV 2 hts gX9_order_X9_layOrder rfl rfl rfl (by decide +kernel) ⟨Nat.le_of_ble_eq_true rfl, Nat.le_of_ble_eq_true rfl⟩) 0 rfl rfl [0, 4, 5] rfl rfl rfl [.inr 0, .inl 1, .inl 2, .inl 3, .inr 1, .inr 2, .inl 6] rfl rfl rfl rfl (Nat.le_of_ble_eq_true rfl) dX9_order_58 (fun H locs hS => ?_)
    refine lv_aload_n hx hb dX9_order_61 rfl (lv_at hl 1 rfl) ?_
    obtain ⟨q13, hq13, h⟩ := s_bind h
    refine r_callvV (As := []) (rest := []) (wc := (wd_X9_layHand cI cB cZ a_this a_all a_kept a_isKept a_refused a_hand a_outs a_order0 a_bestOrder a_tells a_bytes a_anew a_values all above below_ hand bytesLong tokenAt tokenLong token value)) (w1 := (wd_X9_layHand cI cB cZ a_this a_all a_kept a_isKept a_refused a_hand a_outs a_order0 a_bestOrder a_tells a_bytes a_anew a_values all above below_ q13 bytesLong tokenAt tokenLong token value)) (ws' := (wd_X9_order cI cB cZ a_this a_all a_kept a_isKept a_refused a_hand a_outs a_order0 a_bestOrder a_tells a_bytes a_anew a_values all refused above below_ q13 outs q12 bestOrder bytesLong tokenAt tokenLong token value)) hx hb hml hown hts hK hA hl hS (c_X9_layHand l D cI cB cZ a_this a_all a_kept a_isKept a_refused a_hand a_outs a_order0 a_bestOrder a_tells a_bytes a_anew a_values all above below_ hand bytesLong tokenAt tokenLong token value _ _ hq13) (cwV 0 hts gX9_order_X9_layHand rfl rfl rfl (by decide +kernel) ⟨Nat.le_of_ble_eq_true rfl, Nat.le_of_ble_eq_true rfl⟩) 0 rfl rfl [0, 1, 3] rfl rfl rfl [.inr 0, .inr 1, .inl 2, .inr 2, .inl 4, .inl 5, .inl 6] rfl rfl rfl rfl (Nat.le_of_ble_eq_true rfl) dX9_order_62 (fun H locs hS => ?_)
    refine lv_iconst (v := (0 : Int32)) hx hb dX9_order_65 (by decide) ?_
    refine lv_istore (lv' := [(7, .int (0 : Int32)), (6, .int (0 : Int32)), (0, .ref a_this), (1, .int l1), (2, .int l2), (3, .int l3), (4, .int l4), (5, .int l5)]) hx hb dX9_order_66 hl (by decide) rfl (fun ls hl => ?_)
    exact w_X9_order_b68 C0 hend (f_X9_order_b45 all fu) ih s_fuel refused q13 outs q12 bestOrder l1 l2 l3 l4 l5 (0 : Int32) (0 : Int32) _ _ _ h hS (lv_sub hl [2, 3, 4, 5, 6, 7, 1, 0] rfl)
def f_X9_order_b25  (all : (Nat → Int32)) : Nat → (Nat → Int32) → (Nat → Int32) → (Nat → Int32) → (Nat → Int32) → (Nat → Int32) → Int32 → Int32 → Int32 → Int32 → Int32 → Option (Int32 × (Nat → Int32) × (Nat → Int32) × (Nat → Int32) × (Nat → Int32) × (Nat → Int32))
  | 0, _, _, _, _, _, _, _, _, _, _ => none
  | fu + 1, refused, hand, outs, order0, bestOrder, l1, l2, l3, l4, l5 => (if l2 < l5 then f_X9_order_b45  all s_fuel refused hand outs order0 bestOrder l1 l2 l3 l4 (0 : Int32) else (f_X9_order_b25 all fu) refused hand outs order0 bestOrder l1 l2 (l3 * l5) l4 (l5 + (1 : Int32)))
set_option maxHeartbeats 4000000 in
set_option maxRecDepth 100000 in
theorem w_X9_order_b25 {p : Program} {l : Launch} {e : Env} {s : State} {m : MethodId} {args : Array Value} {below : List Frame} {meth : Method} {c : Code} {A : Nat → Prop} {Q : State → Prop} {D : va_G} {cI cB cZ : ClassId} {a_this a_all a_kept a_isKept a_refused a_hand a_outs a_order0 a_bestOrder a_tells a_bytes a_anew a_values : Nat} {all : (Nat → Int32)} {above : Int64} {below_ : Int64} {bytesLong : Int32} {tokenAt : Int32} {tokenLong : Int32} {token : Int32} {value : Int32} (C0 : Cx p s m args c cX9_order 8 RX9 wsX9_order D (s_tys cI cB cZ) A) {rv : Int32 × (Nat → Int32) × (Nat → Int32) × (Nat → Int32) × (Nat → Int32) × (Nat → Int32)} (hend : ∀ (pc : Nat) (H : Heap) (locs : List Loc) (ls : Array Slot), decode cX9_order pc = .ok (.ireturn, 1) → sS D vwCl A s.heap (wd_X9_order cI cB cZ a_this a_all a_kept a_isKept a_refused a_hand a_outs a_order0 a_bestOrder a_tells a_bytes a_anew a_values all rv.2.1 above below_ rv.2.2.1 rv.2.2.2.1 rv.2.2.2.2.1 rv.2.2.2.2.2 bytesLong tokenAt tokenLong token value) H locs → W p l e rm_X9_order s m args below meth c H locs 0 0 Q (F0 m pc ls [.int rv.1])) : ∀ (fu : Nat) (refused : (Nat → Int32)) (hand : (Nat → Int32)) (outs : (Nat → Int32)) (order0 : (Nat → Int32)) (bestOrder : (Nat → Int32)) (l1 : Int32) (l2 : Int32) (l3 : Int32) (l4 : Int32) (l5 : Int32) (H : Heap) (locs : List Loc) (ls : Array Slot), f_X9_order_b25 all fu refused hand outs order0 bestOrder l1 l2 l3 l4 l5 = some rv → sS D vwCl A s.heap (wd_X9_order cI cB cZ a_this a_all a_kept a_isKept a_refused a_hand a_outs a_order0 a_bestOrder a_tells a_bytes a_anew a_values all refused above below_ hand outs order0 bestOrder bytesLong tokenAt tokenLong token value) H locs → lv_has ls 8 [(0, .ref a_this), (1, .int l1), (2, .int l2), (3, .int l3), (4, .int l4), (5, .int l5)] → W p l e rm_X9_order s m args below meth c H locs 0 0 Q (F0 m 25 ls []) := by
  obtain ⟨hx, hb, hml, hown, hts, hK, hA⟩ := id C0
  have inX9 : ∀ w ∈ u_ws RX9 TX9 19, w ∈ wsX9_order := inX9_X9_order
  intro fu
  induction fu with
  | zero => intro refused hand outs order0 bestOrder l1 l2 l3 l4 l5 H locs ls h; cases h
  | succ fu ih =>
    intro refused hand outs order0 bestOrder l1 l2 l3 l4 l5 H locs ls h hS hl
    rw [f_X9_order_b25] at h
    refine lv_iload hx hb dX9_order_25 (lv_at hl 5 rfl) ?_
    refine lv_iload_n hx hb dX9_order_27 rfl (lv_at hl 2 rfl) ?_
    refine lv_icmp_gt (tgt := 42) hx hb dX9_order_28 (by decide) (fun c14 => ?_) (fun c14 => ?_)
    · replace h := s_yes c14 h
      refine lv_iconst (v := (0 : Int32)) hx hb dX9_order_42 (by decide) ?_
      refine lv_istore (lv' := [(5, .int (0 : Int32)), (0, .ref a_this), (1, .int l1), (2, .int l2), (3, .int l3), (4, .int l4)]) hx hb dX9_order_43 hl (by decide) rfl (fun ls hl => ?_)
      exact w_X9_order_b45 C0 hend  s_fuel refused hand outs order0 bestOrder l1 l2 l3 l4 (0 : Int32) _ _ _ h hS (lv_sub hl [1, 2, 3, 4, 5, 0] rfl)
    replace h := s_no c14 h
    refine lv_iload_n hx hb dX9_order_31 rfl (lv_at hl 3 rfl) ?_
    refine lv_iload hx hb dX9_order_32 (lv_at hl 5 rfl) ?_
    refine lv_imul hx hb dX9_order_34 ?_
    refine lv_istore_n (lv' := [(3, .int (l3 * l5)), (0, .ref a_this), (1, .int l1), (2, .int l2), (4, .int l4), (5, .int l5)]) hx hb dX9_order_35 rfl hl (by decide) rfl (fun ls hl => ?_)
    refine lv_iinc (v := (l5 + (1 : Int32))) (lv' := [(5, .int (l5 + (1 : Int32))), (3, .int (l3 * l5)), (0, .ref a_this), (1, .int l1), (2, .int l2), (4, .int l4)]) hx hb dX9_order_36 hl (k := 5) rfl rfl (by decide) rfl (fun ls hl => ?_)
    refine lv_goto (tgt := 25) hx hb dX9_order_39 (by decide) ?_
    exact ih refused hand outs order0 bestOrder l1 l2 (l3 * l5) l4 (l5 + (1 : Int32)) _ _ _ h hS (lv_sub hl [2, 3, 4, 1, 5, 0] rfl)
def f_X9_order  (all : (Nat → Int32)) (refused : (Nat → Int32)) (hand : (Nat → Int32)) (outs : (Nat → Int32)) (order0 : (Nat → Int32)) (bestOrder : (Nat → Int32)) (p1 : Int32) : Option (Int32 × (Nat → Int32) × (Nat → Int32) × (Nat → Int32) × (Nat → Int32) × (Nat → Int32)) := (if (-1 : Int32) ≤ p1 then ((f_X9_layOuts all outs).bind fun q16 => f_X9_order_b25  all s_fuel refused hand q16.2 order0 bestOrder p1 q16.1 (1 : Int32) (-1 : Int32) (2 : Int32)) else ((f_X9_bad refused (-10 : Int32)).bind fun q17 => some (q17.1, q17.2, hand, outs, order0, bestOrder)))
set_option maxHeartbeats 4000000 in
set_option maxRecDepth 100000 in
theorem c_X9_order (l : Launch) (D : va_G) (cI cB cZ : ClassId) (a_this : Nat) (a_all : Nat) (a_kept : Nat) (a_isKept : Nat) (a_refused : Nat) (a_hand : Nat) (a_outs : Nat) (a_order0 : Nat) (a_bestOrder : Nat) (a_tells : Nat) (a_bytes : Nat) (a_anew : Nat) (a_values : Nat) (all : (Nat → Int32)) (refused : (Nat → Int32)) (above : Int64) (below_ : Int64) (hand : (Nat → Int32)) (outs : (Nat → Int32)) (order0 : (Nat → Int32)) (bestOrder : (Nat → Int32)) (bytesLong : Int32) (tokenAt : Int32) (tokenLong : Int32) (token : Int32) (value : Int32) (p1 : Int32) (rv : Int32 × (Nat → Int32) × (Nat → Int32) × (Nat → Int32) × (Nat → Int32) × (Nat → Int32)) (sz : Nat) (hf : f_X9_order all refused hand outs order0 bestOrder p1 = some rv) : Met l yX9_order wsX9_order rm_X9_order (sPc D vwCl (s_tys cI cB cZ) [.ref a_this, .int p1] (wd_X9_order cI cB cZ a_this a_all a_kept a_isKept a_refused a_hand a_outs a_order0 a_bestOrder a_tells a_bytes a_anew a_values all refused above below_ hand outs order0 bestOrder bytesLong tokenAt tokenLong token value) sz) (sQi D vwCl (wd_X9_order cI cB cZ a_this a_all a_kept a_isKept a_refused a_hand a_outs a_order0 a_bestOrder a_tells a_bytes a_anew a_values all refused above below_ hand outs order0 bestOrder bytesLong tokenAt tokenLong token value) (wd_X9_order cI cB cZ a_this a_all a_kept a_isKept a_refused a_hand a_outs a_order0 a_bestOrder a_tells a_bytes a_anew a_values all rv.2.1 above below_ rv.2.2.1 rv.2.2.2.1 rv.2.2.2.2.1 rv.2.2.2.2.2 bytesLong tokenAt tokenLong token value) sz rv.1) 0 0 (va_A (wd_X9_order cI cB cZ a_this a_all a_kept a_isKept a_refused a_hand a_outs a_order0 a_bestOrder a_tells a_bytes a_anew a_values all refused above below_ hand outs order0 bestOrder bytesLong tokenAt tokenLong token value) sz) := by
  refine s_enter_n (cc := cX9_order) (nL := 8) (r := rv.1) (by decide) rfl (Nat.le_of_ble_eq_true rfl) ?_
  intro p e s m args below meth c A Q C0 hend ls hl hS
  have h := hf
  clear hf
  replace hl : lv_has ls 8 [(0, .ref a_this), (1, .int p1)] := hl
  unfold f_X9_order at h
  obtain ⟨hx, hb, hml, hown, hts, hK, hA⟩ := id C0
  have inX9 : ∀ w ∈ u_ws RX9 TX9 19, w ∈ wsX9_order := inX9_X9_order
  refine lv_iload_n hx hb dX9_order_0 rfl (lv_at hl 1 rfl) ?_
  refine lv_iconst (v := (-1 : Int32)) hx hb dX9_order_1 (by decide) ?_
  refine lv_icmp_ge (tgt := 12) hx hb dX9_order_2 (by decide) (fun c15 => ?_) (fun c15 => ?_)
  · replace h := s_yes c15 h
    refine lv_aload_n hx hb dX9_order_12 rfl (lv_at hl 0 rfl) ?_
    obtain ⟨q16, hq16, h⟩ := s_bind h
    refine r_calliV (r := q16.1) (As := []) (rest := []) (wc := (wd_X9_layOuts cI cB cZ a_this a_all a_kept a_isKept a_refused a_hand a_outs a_order0 a_bestOrder a_tells a_bytes a_anew a_values all above below_ outs bytesLong tokenAt tokenLong token value)) (w1 := (wd_X9_layOuts cI cB cZ a_this a_all a_kept a_isKept a_refused a_hand a_outs a_order0 a_bestOrder a_tells a_bytes a_anew a_values all above below_ q16.2 bytesLong tokenAt tokenLong token value)) (ws' := (wd_X9_order cI cB cZ a_this a_all a_kept a_isKept a_refused a_hand a_outs a_order0 a_bestOrder a_tells a_bytes a_anew a_values all refused above below_ hand q16.2 order0 bestOrder bytesLong tokenAt tokenLong token value)) hx hb hml hown hts hK hA hl hS (c_X9_layOuts l D cI cB cZ a_this a_all a_kept a_isKept a_refused a_hand a_outs a_order0 a_bestOrder a_tells a_bytes a_anew a_values all above below_ outs bytesLong tokenAt tokenLong token value _ _ hq16) (cwV 0 hts gX9_order_X9_layOuts rfl rfl rfl (by decide +kernel) ⟨Nat.le_of_ble_eq_true rfl, Nat.le_of_ble_eq_true rfl⟩) 0 rfl rfl [0, 1, 4] rfl rfl rfl [.inr 0, .inr 1, .inl 2, .inl 3, .inr 2, .inl 5, .inl 6] rfl rfl rfl rfl (Nat.le_of_ble_eq_true rfl) dX9_order_13 (fun H locs hS => ?_)
    refine lv_istore_n (lv' := [(2, .int q16.1), (0, .ref a_this), (1, .int p1)]) hx hb dX9_order_16 rfl hl (by decide) rfl (fun ls hl => ?_)
    refine lv_iconst (v := (1 : Int32)) hx hb dX9_order_17 (by decide) ?_
    refine lv_istore_n (lv' := [(3, .int (1 : Int32)), (2, .int q16.1), (0, .ref a_this), (1, .int p1)]) hx hb dX9_order_18 rfl hl (by decide) rfl (fun ls hl => ?_)
    refine lv_iconst (v := (-1 : Int32)) hx hb dX9_order_19 (by decide) ?_
    refine lv_istore (lv' := [(4, .int (-1 : Int32)), (3, .int (1 : Int32)), (2, .int q16.1), (0, .ref a_this), (1, .int p1)]) hx hb dX9_order_20 hl (by decide) rfl (fun ls hl => ?_)
    refine lv_iconst (v := (2 : Int32)) hx hb dX9_order_22 (by decide) ?_
    refine lv_istore (lv' := [(5, .int (2 : Int32)), (4, .int (-1 : Int32)), (3, .int (1 : Int32)), (2, .int q16.1), (0, .ref a_this), (1, .int p1)]) hx hb dX9_order_23 hl (by decide) rfl (fun ls hl => ?_)
    exact w_X9_order_b25 C0 hend  s_fuel refused hand q16.2 order0 bestOrder p1 q16.1 (1 : Int32) (-1 : Int32) (2 : Int32) _ _ _ h hS (lv_sub hl [4, 5, 3, 2, 1, 0] rfl)
  replace h := s_no c15 h
  refine lv_aload_n hx hb dX9_order_5 rfl (lv_at hl 0 rfl) ?_
  refine lv_bipush (v := (-10 : Int32)) hx hb dX9_order_6 (by decide) ?_
  obtain ⟨q17, hq17, h⟩ := s_bind h
  refine r_calliV (r := q17.1) (As := [.int (-10 : Int32)]) (rest := []) (wc := (wd_X9_bad cI cB cZ a_this a_all a_kept a_isKept a_refused a_hand a_outs a_order0 a_bestOrder a_tells a_bytes a_anew a_values refused above below_ bytesLong tokenAt tokenLong token value)) (w1 := (wd_X9_bad cI cB cZ a_this a_all a_kept a_isKept a_refused a_hand a_outs a_order0 a_bestOrder a_tells a_bytes a_anew a_values q17.2 above below_ bytesLong tokenAt tokenLong token value)) (ws' := (wd_X9_order cI cB cZ a_this a_all a_kept a_isKept a_refused a_hand a_outs a_order0 a_bestOrder a_tells a_bytes a_anew a_values all q17.2 above below_ hand outs order0 bestOrder bytesLong tokenAt tokenLong token value)) hx hb hml hown hts hK hA hl hS (c_X9_bad l D cI cB cZ a_this a_all a_kept a_isKept a_refused a_hand a_outs a_order0 a_bestOrder a_tells a_bytes a_anew a_values refused above below_ bytesLong tokenAt tokenLong token value (-10 : Int32) _ _ hq17) (cwV 1 hts gX9_order_X9_bad rfl rfl rfl (by decide +kernel) ⟨Nat.le_of_ble_eq_true rfl, Nat.le_of_ble_eq_true rfl⟩) 0 rfl rfl [0, 2] rfl rfl rfl [.inr 0, .inl 1, .inr 1, .inl 3, .inl 4, .inl 5, .inl 6] rfl rfl rfl rfl (Nat.le_of_ble_eq_true rfl) dX9_order_8 (fun H locs hS => ?_)
  obtain rfl := Option.some.inj h
  exact hend _ _ _ _ dX9_order_11 hS

