-- InnTurned$House.arrive(I)Z
def wd_X1_arrive (cI cB cZ : ClassId) (a_this : Nat) (a_wets : Nat) (a_guests : Nat) (a_guests_cells : Nat) (a_sights : Nat) (a_remarks : Nat) (a_marks : Nat) (a_past : Nat)  (wets : (Nat → Int32)) (guests_cells : (Nat → Int32)) (guests_rows : Int32) (host : Int32) (rooms : Int32) (night : Int32) (wheels : Int32) (turned : Int32) : va_W := [(a_this, .inr (0, [.ref a_wets, .ref a_guests, .ref a_sights, .ref a_remarks, .ref a_marks, .ref a_past, .int host, .int rooms, .int night, .int wheels, .int turned])), (a_wets, .inl (cI, 6, .inl wets)), (a_guests, .inr (3, [.int 4, .int 7, .ref a_guests_cells, .int guests_rows])), (a_guests_cells, .inl (cI, 28, .inl guests_cells))]
abbrev rm_X1_arrive : Room := { frames := 4, cells := 0, slots := 0, locals := 87 }
set_option maxRecDepth 20000 in
theorem inX1_X1_arrive : ∀ w ∈ u_ws RX1 TX1 11, w ∈ wsX1_arrive := by decide +kernel
def f_X1_arrive_b68  (wets : (Nat → Int32)) (guests_rows : Int32) (host : Int32) (rooms : Int32) (night : Int32) (guests_cells : (Nat → Int32)) (wheels : Int32) (turned : Int32) (l2 : Int32) : Option (Int32 × (Nat → Int32) × Int32 × Int32) := (if l2 = 0 ∨ l2 = 1 then some (l2, guests_cells, (if (wheels + (1 : Int32)) < (99 : Int32) then (wheels + (1 : Int32)) else (99 : Int32)), turned) else none)
set_option maxHeartbeats 4000000 in
set_option maxRecDepth 100000 in
theorem w_X1_arrive_b68 {p : Program} {l : Launch} {e : Env} {s : State} {m : MethodId} {args : Array Value} {below : List Frame} {meth : Method} {c : Code} {A : Nat → Prop} {Q : State → Prop} {D : va_G} {cI cB cZ : ClassId} {a_this a_wets a_guests a_guests_cells a_sights a_remarks a_marks a_past : Nat} {wets : (Nat → Int32)} {guests_rows : Int32} {host : Int32} {rooms : Int32} {night : Int32} (C0 : Cx p s m args c cX1_arrive 3 RX1 wsX1_arrive D (s_tys cI cB cZ) A) {rv : Int32 × (Nat → Int32) × Int32 × Int32} (hend : ∀ (pc : Nat) (H : Heap) (locs : List Loc) (ls : Array Slot), decode cX1_arrive pc = .ok (.ireturn, 1) → (rv.1 = 0 ∨ rv.1 = 1) → sS D vwCl A s.heap (wd_X1_arrive cI cB cZ a_this a_wets a_guests a_guests_cells a_sights a_remarks a_marks a_past wets rv.2.1 guests_rows host rooms night rv.2.2.1 rv.2.2.2) H locs → W p l e rm_X1_arrive s m args below meth c H locs 0 0 Q (F0 m pc ls [.int rv.1])) : ∀ (guests_cells : (Nat → Int32)) (wheels : Int32) (turned : Int32) (l2 : Int32) (H : Heap) (locs : List Loc) (ls : Array Slot), f_X1_arrive_b68 wets guests_rows host rooms night guests_cells wheels turned l2 = some rv → sS D vwCl A s.heap (wd_X1_arrive cI cB cZ a_this a_wets a_guests a_guests_cells a_sights a_remarks a_marks a_past wets guests_cells guests_rows host rooms night wheels turned) H locs → lv_has ls 3 [(0, .ref a_this), (2, .int l2)] → W p l e rm_X1_arrive s m args below meth c H locs 0 0 Q (F0 m 68 ls []) := by
  obtain ⟨hx, hb, hml, hown, hts, hK, hA⟩ := id C0
  have inX1 : ∀ w ∈ u_ws RX1 TX1 11, w ∈ wsX1_arrive := inX1_X1_arrive
  intro guests_cells wheels turned l2 H locs ls h hS hl
  unfold f_X1_arrive_b68 at h
  refine lv_aload_n hx hb dX1_arrive_68 rfl (lv_at hl 0 rfl) ?_
  refine lv_bipush (v := (99 : Int32)) hx hb dX1_arrive_69 (by decide) ?_
  refine lv_aload_n hx hb dX1_arrive_71 rfl (lv_at hl 0 rfl) ?_
  refine s_get (C := RX1) (T := TX1) (N := 11) hx hb hts inX1 hown hK hS 0 rfl rfl 9 (by decide) (hts (.fieldLink RX1 46 "InnTurned$House" "wheels" "I") (List.mem_of_getElem? (i := 7) rfl)) rfl rfl dX1_arrive_72 ?_
  refine lv_iconst (v := (1 : Int32)) hx hb dX1_arrive_75 (by decide) ?_
  refine lv_iadd hx hb dX1_arrive_76 ?_
  refine s_min hx hb hml hl.1 hown (hts (.methodLink RX1 112 Lib.Math.min.name) (List.mem_of_getElem? (i := 2) rfl)) (hts (.static Lib.Math.min.name) (List.mem_of_getElem? (i := 3) rfl)) (hts (.initialized "java/lang/Math") (List.mem_of_getElem? (i := 4) rfl)) (hts (.code Lib.Math.min.name Lib.Math.min.code 2 (some .int)) (List.mem_of_getElem? (i := 5) rfl)) (Nat.le_of_ble_eq_true rfl) (Nat.le_of_ble_eq_true rfl) dX1_arrive_77 ?_
  refine s_put (ws' := (wd_X1_arrive cI cB cZ a_this a_wets a_guests a_guests_cells a_sights a_remarks a_marks a_past wets guests_cells guests_rows host rooms night (if (wheels + (1 : Int32)) < (99 : Int32) then (wheels + (1 : Int32)) else (99 : Int32)) turned)) (C := RX1) (T := TX1) (N := 11) hx hb hts inX1 tyX1 tyX1_ok nmX1 hown hK hS 0 rfl rfl 9 (by decide) (hts (.fieldLink RX1 46 "InnTurned$House" "wheels" "I") (List.mem_of_getElem? (i := 7) rfl)) rfl rfl rfl rfl (Nat.le_of_ble_eq_true rfl) rfl dX1_arrive_80 (fun H locs hS => ?_)
  refine lv_iload_n hx hb dX1_arrive_83 rfl (lv_at hl 1 rfl) ?_
  obtain ⟨g1, h⟩ := s_guard h
  obtain rfl := Option.some.inj h
  exact hend _ _ _ _ dX1_arrive_84 g1 hS
def f_X1_arrive  (wets : (Nat → Int32)) (guests_rows : Int32) (host : Int32) (rooms : Int32) (night : Int32) (guests_cells : (Nat → Int32)) (wheels : Int32) (turned : Int32) (p1 : Int32) : Option (Int32 × (Nat → Int32) × Int32 × Int32) := ((f_X1_wetNow wets night).bind fun q2 => ((f_X1_opensTo guests_cells guests_rows host rooms night wheels p1 q2).bind fun q3 => (if q3 = 0 then f_X1_arrive_b68  wets guests_rows host rooms night guests_cells wheels (if (turned + (1 : Int32)) < (9999 : Int32) then (turned + (1 : Int32)) else (9999 : Int32)) q3 else ((f_X5_put 28 (4 : Int32) guests_rows guests_cells p1 (3 : Int32) (1 : Int32)).bind fun q5 => ((f_X5_cell 28 (4 : Int32) q5 guests_rows p1 (2 : Int32)).bind fun q6 => ((f_X5_put 28 (4 : Int32) guests_rows q5 p1 (2 : Int32) (if (q6 + (1 : Int32)) < (99 : Int32) then (q6 + (1 : Int32)) else (99 : Int32))).bind fun q7 => f_X1_arrive_b68  wets guests_rows host rooms night q7 wheels turned q3))))))
set_option maxHeartbeats 4000000 in
set_option maxRecDepth 100000 in
theorem c_X1_arrive (l : Launch) (D : va_G) (cI cB cZ : ClassId) (a_this : Nat) (a_wets : Nat) (a_guests : Nat) (a_guests_cells : Nat) (a_sights : Nat) (a_remarks : Nat) (a_marks : Nat) (a_past : Nat) (wets : (Nat → Int32)) (guests_cells : (Nat → Int32)) (guests_rows : Int32) (host : Int32) (rooms : Int32) (night : Int32) (wheels : Int32) (turned : Int32) (p1 : Int32) (rv : Int32 × (Nat → Int32) × Int32 × Int32) (sz : Nat) (hf : f_X1_arrive wets guests_rows host rooms night guests_cells wheels turned p1 = some rv) : Met l yX1_arrive wsX1_arrive rm_X1_arrive (sPc D vwCl (s_tys cI cB cZ) [.ref a_this, .int p1] (wd_X1_arrive cI cB cZ a_this a_wets a_guests a_guests_cells a_sights a_remarks a_marks a_past wets guests_cells guests_rows host rooms night wheels turned) sz) (sQi D vwCl (wd_X1_arrive cI cB cZ a_this a_wets a_guests a_guests_cells a_sights a_remarks a_marks a_past wets guests_cells guests_rows host rooms night wheels turned) (wd_X1_arrive cI cB cZ a_this a_wets a_guests a_guests_cells a_sights a_remarks a_marks a_past wets rv.2.1 guests_rows host rooms night rv.2.2.1 rv.2.2.2) sz rv.1) 0 0 (va_A (wd_X1_arrive cI cB cZ a_this a_wets a_guests a_guests_cells a_sights a_remarks a_marks a_past wets guests_cells guests_rows host rooms night wheels turned) sz) := by
  refine s_enter_z (cc := cX1_arrive) (nL := 3) (r := rv.1) (by decide) rfl (Nat.le_of_ble_eq_true rfl) ?_
  intro p e s m args below meth c A Q C0 hend ls hl hS
  have h := hf
  clear hf
  replace hl : lv_has ls 3 [(0, .ref a_this), (1, .int p1)] := hl
  unfold f_X1_arrive at h
  obtain ⟨hx, hb, hml, hown, hts, hK, hA⟩ := id C0
  have inX1 : ∀ w ∈ u_ws RX1 TX1 11, w ∈ wsX1_arrive := inX1_X1_arrive
  refine lv_aload_n hx hb dX1_arrive_0 rfl (lv_at hl 0 rfl) ?_
  refine lv_iload_n hx hb dX1_arrive_1 rfl (lv_at hl 1 rfl) ?_
  refine lv_aload_n hx hb dX1_arrive_2 rfl (lv_at hl 0 rfl) ?_
  obtain ⟨q2, hq2, h⟩ := s_bind h
  refine u_calliV (r := q2) (As := []) (rest := [.int p1, .ref a_this]) (wc := (wd_X1_wetNow cI cB cZ a_this a_wets a_guests a_sights a_remarks a_marks a_past wets host rooms night wheels turned)) hx hb hml hown hts hK hA hl hS (c_X1_wetNow l D cI cB cZ a_this a_wets a_guests a_sights a_remarks a_marks a_past wets host rooms night wheels turned _ _ hq2) (cwV 0 hts gX1_arrive_X1_wetNow rfl rfl rfl (by decide +kernel) ⟨Nat.le_of_ble_eq_true rfl, Nat.le_of_ble_eq_true rfl⟩) 0 rfl rfl [0, 1] rfl rfl rfl rfl (Nat.le_of_ble_eq_true rfl) dX1_arrive_3 (fun H locs hS => ?_)
  obtain ⟨q3, hq3, h⟩ := s_bind h
  refine u_calliV (r := q3) (As := [.int p1, .int q2]) (rest := []) (wc := (wd_X1_opensTo cI cB cZ a_this a_wets a_guests a_guests_cells a_sights a_remarks a_marks a_past guests_cells guests_rows host rooms night wheels turned)) hx hb hml hown hts hK hA hl hS (c_X1_opensTo l D cI cB cZ a_this a_wets a_guests a_guests_cells a_sights a_remarks a_marks a_past guests_cells guests_rows host rooms night wheels turned p1 q2 _ _ hq3) (cwV 2 hts gX1_arrive_X1_opensTo rfl rfl rfl (by decide +kernel) ⟨Nat.le_of_ble_eq_true rfl, Nat.le_of_ble_eq_true rfl⟩) 0 rfl rfl [0, 2, 3] rfl rfl rfl rfl (Nat.le_of_ble_eq_true rfl) dX1_arrive_6 (fun H locs hS => ?_)
  refine lv_istore_n (lv' := [(2, .int q3), (0, .ref a_this), (1, .int p1)]) hx hb dX1_arrive_9 rfl hl (by decide) rfl (fun ls hl => ?_)
  refine lv_iload_n hx hb dX1_arrive_10 rfl (lv_at hl 0 rfl) ?_
  refine lv_if_eq (tgt := 52) hx hb dX1_arrive_11 (by decide) (fun c4 => ?_) (fun c4 => ?_)
  · replace h := s_yes c4 h
    refine lv_aload_n hx hb dX1_arrive_52 rfl (lv_at hl 1 rfl) ?_
    refine lv_sipush (v := (9999 : Int32)) hx hb dX1_arrive_53 (by decide) ?_
    refine lv_aload_n hx hb dX1_arrive_56 rfl (lv_at hl 1 rfl) ?_
    refine s_get (C := RX1) (T := TX1) (N := 11) hx hb hts inX1 hown hK hS 0 rfl rfl 10 (by decide) (hts (.fieldLink RX1 49 "InnTurned$House" "turned" "I") (List.mem_of_getElem? (i := 6) rfl)) rfl rfl dX1_arrive_57 ?_
    refine lv_iconst (v := (1 : Int32)) hx hb dX1_arrive_60 (by decide) ?_
    refine lv_iadd hx hb dX1_arrive_61 ?_
    refine s_min hx hb hml hl.1 hown (hts (.methodLink RX1 112 Lib.Math.min.name) (List.mem_of_getElem? (i := 2) rfl)) (hts (.static Lib.Math.min.name) (List.mem_of_getElem? (i := 3) rfl)) (hts (.initialized "java/lang/Math") (List.mem_of_getElem? (i := 4) rfl)) (hts (.code Lib.Math.min.name Lib.Math.min.code 2 (some .int)) (List.mem_of_getElem? (i := 5) rfl)) (Nat.le_of_ble_eq_true rfl) (Nat.le_of_ble_eq_true rfl) dX1_arrive_62 ?_
    refine s_put (ws' := (wd_X1_arrive cI cB cZ a_this a_wets a_guests a_guests_cells a_sights a_remarks a_marks a_past wets guests_cells guests_rows host rooms night wheels (if (turned + (1 : Int32)) < (9999 : Int32) then (turned + (1 : Int32)) else (9999 : Int32)))) (C := RX1) (T := TX1) (N := 11) hx hb hts inX1 tyX1 tyX1_ok nmX1 hown hK hS 0 rfl rfl 10 (by decide) (hts (.fieldLink RX1 49 "InnTurned$House" "turned" "I") (List.mem_of_getElem? (i := 6) rfl)) rfl rfl rfl rfl (Nat.le_of_ble_eq_true rfl) rfl dX1_arrive_65 (fun H locs hS => ?_)
    exact w_X1_arrive_b68 C0 hend  guests_cells wheels (if (turned + (1 : Int32)) < (9999 : Int32) then (turned + (1 : Int32)) else (9999 : Int32)) q3 _ _ _ h hS (lv_sub hl [1, 0] rfl)
  replace h := s_no c4 h
  refine lv_aload_n hx hb dX1_arrive_14 rfl (lv_at hl 1 rfl) ?_
  refine s_get (C := RX1) (T := TX1) (N := 11) hx hb hts inX1 hown hK hS 0 rfl rfl 1 (by decide) (hts (.fieldLink RX1 20 "InnTurned$House" "guests" "LInnTurned$Table;") (List.mem_of_getElem? (i := 1) rfl)) rfl rfl dX1_arrive_15 ?_
  refine lv_iload_n hx hb dX1_arrive_18 rfl (lv_at hl 2 rfl) ?_
  refine lv_iconst (v := (3 : Int32)) hx hb dX1_arrive_19 (by decide) ?_
  refine lv_iconst (v := (1 : Int32)) hx hb dX1_arrive_20 (by decide) ?_
  obtain ⟨q5, hq5, h⟩ := s_bind h
  refine r_callvV (As := [.int p1, .int (3 : Int32), .int (1 : Int32)]) (rest := []) (wc := (wd_X5_put cI cB cZ a_guests a_guests_cells 28 (4 : Int32) (7 : Int32) guests_cells guests_rows)) (w1 := (wd_X5_put cI cB cZ a_guests a_guests_cells 28 (4 : Int32) (7 : Int32) q5 guests_rows)) (ws' := (wd_X1_arrive cI cB cZ a_this a_wets a_guests a_guests_cells a_sights a_remarks a_marks a_past wets q5 guests_rows host rooms night wheels turned)) hx hb hml hown hts hK hA hl hS (c_X5_put l D cI cB cZ a_guests a_guests_cells 28 (4 : Int32) (7 : Int32) guests_cells guests_rows p1 (3 : Int32) (1 : Int32) _ _ hq5) (cwV 3 hts gX1_arrive_X5_put rfl rfl rfl (by decide +kernel) ⟨Nat.le_of_ble_eq_true rfl, Nat.le_of_ble_eq_true rfl⟩) 2 rfl rfl [2, 3] rfl rfl rfl [.inl 0, .inl 1, .inr 0, .inr 1] rfl rfl rfl rfl (Nat.le_of_ble_eq_true rfl) dX1_arrive_21 (fun H locs hS => ?_)
  refine lv_aload_n hx hb dX1_arrive_24 rfl (lv_at hl 1 rfl) ?_
  refine s_get (C := RX1) (T := TX1) (N := 11) hx hb hts inX1 hown hK hS 0 rfl rfl 1 (by decide) (hts (.fieldLink RX1 20 "InnTurned$House" "guests" "LInnTurned$Table;") (List.mem_of_getElem? (i := 1) rfl)) rfl rfl dX1_arrive_25 ?_
  refine lv_iload_n hx hb dX1_arrive_28 rfl (lv_at hl 2 rfl) ?_
  refine lv_iconst (v := (2 : Int32)) hx hb dX1_arrive_29 (by decide) ?_
  refine lv_bipush (v := (99 : Int32)) hx hb dX1_arrive_30 (by decide) ?_
  refine lv_aload_n hx hb dX1_arrive_32 rfl (lv_at hl 1 rfl) ?_
  refine s_get (C := RX1) (T := TX1) (N := 11) hx hb hts inX1 hown hK hS 0 rfl rfl 1 (by decide) (hts (.fieldLink RX1 20 "InnTurned$House" "guests" "LInnTurned$Table;") (List.mem_of_getElem? (i := 1) rfl)) rfl rfl dX1_arrive_33 ?_
  refine lv_iload_n hx hb dX1_arrive_36 rfl (lv_at hl 2 rfl) ?_
  refine lv_iconst (v := (2 : Int32)) hx hb dX1_arrive_37 (by decide) ?_
  obtain ⟨q6, hq6, h⟩ := s_bind h
  refine u_calliV (r := q6) (As := [.int p1, .int (2 : Int32)]) (rest := [.int (99 : Int32), .int (2 : Int32), .int p1, .ref a_guests]) (wc := (wd_X5_cell cI cB cZ a_guests a_guests_cells 28 (4 : Int32) (7 : Int32) q5 guests_rows)) hx hb hml hown hts hK hA hl hS (c_X5_cell l D cI cB cZ a_guests a_guests_cells 28 (4 : Int32) (7 : Int32) q5 guests_rows p1 (2 : Int32) _ _ hq6) (cwV 2 hts gX1_arrive_X5_cell rfl rfl rfl (by decide +kernel) ⟨Nat.le_of_ble_eq_true rfl, Nat.le_of_ble_eq_true rfl⟩) 2 rfl rfl [2, 3] rfl rfl rfl rfl (Nat.le_of_ble_eq_true rfl) dX1_arrive_38 (fun H locs hS => ?_)
  refine lv_iconst (v := (1 : Int32)) hx hb dX1_arrive_41 (by decide) ?_
  refine lv_iadd hx hb dX1_arrive_42 ?_
  refine s_min hx hb hml hl.1 hown (hts (.methodLink RX1 112 Lib.Math.min.name) (List.mem_of_getElem? (i := 2) rfl)) (hts (.static Lib.Math.min.name) (List.mem_of_getElem? (i := 3) rfl)) (hts (.initialized "java/lang/Math") (List.mem_of_getElem? (i := 4) rfl)) (hts (.code Lib.Math.min.name Lib.Math.min.code 2 (some .int)) (List.mem_of_getElem? (i := 5) rfl)) (Nat.le_of_ble_eq_true rfl) (Nat.le_of_ble_eq_true rfl) dX1_arrive_43 ?_
  obtain ⟨q7, hq7, h⟩ := s_bind h
  refine r_callvV (As := [.int p1, .int (2 : Int32), .int (if (q6 + (1 : Int32)) < (99 : Int32) then (q6 + (1 : Int32)) else (99 : Int32))]) (rest := []) (wc := (wd_X5_put cI cB cZ a_guests a_guests_cells 28 (4 : Int32) (7 : Int32) q5 guests_rows)) (w1 := (wd_X5_put cI cB cZ a_guests a_guests_cells 28 (4 : Int32) (7 : Int32) q7 guests_rows)) (ws' := (wd_X1_arrive cI cB cZ a_this a_wets a_guests a_guests_cells a_sights a_remarks a_marks a_past wets q7 guests_rows host rooms night wheels turned)) hx hb hml hown hts hK hA hl hS (c_X5_put l D cI cB cZ a_guests a_guests_cells 28 (4 : Int32) (7 : Int32) q5 guests_rows p1 (2 : Int32) (if (q6 + (1 : Int32)) < (99 : Int32) then (q6 + (1 : Int32)) else (99 : Int32)) _ _ hq7) (cwV 3 hts gX1_arrive_X5_put rfl rfl rfl (by decide +kernel) ⟨Nat.le_of_ble_eq_true rfl, Nat.le_of_ble_eq_true rfl⟩) 2 rfl rfl [2, 3] rfl rfl rfl [.inl 0, .inl 1, .inr 0, .inr 1] rfl rfl rfl rfl (Nat.le_of_ble_eq_true rfl) dX1_arrive_46 (fun H locs hS => ?_)
  refine lv_goto (tgt := 68) hx hb dX1_arrive_49 (by decide) ?_
  exact w_X1_arrive_b68 C0 hend  q7 wheels turned q3 _ _ _ h hS (lv_sub hl [1, 0] rfl)

-- InnTurned$House.leave(I)V
def wd_X1_leave (cI cB cZ : ClassId) (a_this : Nat) (a_wets : Nat) (a_guests : Nat) (a_guests_cells : Nat) (a_sights : Nat) (a_remarks : Nat) (a_marks : Nat) (a_past : Nat)  (guests_cells : (Nat → Int32)) (guests_rows : Int32) (host : Int32) (rooms : Int32) (night : Int32) (wheels : Int32) (turned : Int32) : va_W := [(a_this, .inr (0, [.ref a_wets, .ref a_guests, .ref a_sights, .ref a_remarks, .ref a_marks, .ref a_past, .int host, .int rooms, .int night, .int wheels, .int turned])), (a_guests, .inr (3, [.int 4, .int 7, .ref a_guests_cells, .int guests_rows])), (a_guests_cells, .inl (cI, 28, .inl guests_cells))]
abbrev rm_X1_leave : Room := { frames := 1, cells := 0, slots := 0, locals := 23 }
set_option maxRecDepth 20000 in
theorem inX1_X1_leave : ∀ w ∈ u_ws RX1 TX1 11, w ∈ wsX1_leave := by decide +kernel
def f_X1_leave  (guests_rows : Int32) (guests_cells : (Nat → Int32)) (p1 : Int32) : Option ((Nat → Int32)) := ((f_X5_put 28 (4 : Int32) guests_rows guests_cells p1 (3 : Int32) (0 : Int32)).bind fun q1 => some (q1))
set_option maxHeartbeats 4000000 in
set_option maxRecDepth 100000 in
theorem c_X1_leave (l : Launch) (D : va_G) (cI cB cZ : ClassId) (a_this : Nat) (a_wets : Nat) (a_guests : Nat) (a_guests_cells : Nat) (a_sights : Nat) (a_remarks : Nat) (a_marks : Nat) (a_past : Nat) (guests_cells : (Nat → Int32)) (guests_rows : Int32) (host : Int32) (rooms : Int32) (night : Int32) (wheels : Int32) (turned : Int32) (p1 : Int32) (rv : (Nat → Int32)) (sz : Nat) (hf : f_X1_leave guests_rows guests_cells p1 = some rv) : Met l yX1_leave wsX1_leave rm_X1_leave (sPc D vwCl (s_tys cI cB cZ) [.ref a_this, .int p1] (wd_X1_leave cI cB cZ a_this a_wets a_guests a_guests_cells a_sights a_remarks a_marks a_past guests_cells guests_rows host rooms night wheels turned) sz) (sQv D vwCl (wd_X1_leave cI cB cZ a_this a_wets a_guests a_guests_cells a_sights a_remarks a_marks a_past guests_cells guests_rows host rooms night wheels turned) (wd_X1_leave cI cB cZ a_this a_wets a_guests a_guests_cells a_sights a_remarks a_marks a_past rv guests_rows host rooms night wheels turned) sz) 0 0 (va_A (wd_X1_leave cI cB cZ a_this a_wets a_guests a_guests_cells a_sights a_remarks a_marks a_past guests_cells guests_rows host rooms night wheels turned) sz) := by
  refine s_enter_v (cc := cX1_leave) (nL := 2) (by decide) rfl (Nat.le_of_ble_eq_true rfl) ?_
  intro p e s m args below meth c A Q C0 hend ls hl hS
  have h := hf
  clear hf
  replace hl : lv_has ls 2 [(0, .ref a_this), (1, .int p1)] := hl
  unfold f_X1_leave at h
  obtain ⟨hx, hb, hml, hown, hts, hK, hA⟩ := id C0
  have inX1 : ∀ w ∈ u_ws RX1 TX1 11, w ∈ wsX1_leave := inX1_X1_leave
  refine lv_aload_n hx hb dX1_leave_0 rfl (lv_at hl 0 rfl) ?_
  refine s_get (C := RX1) (T := TX1) (N := 11) hx hb hts inX1 hown hK hS 0 rfl rfl 1 (by decide) (hts (.fieldLink RX1 20 "InnTurned$House" "guests" "LInnTurned$Table;") (List.mem_of_getElem? (i := 1) rfl)) rfl rfl dX1_leave_1 ?_
  refine lv_iload_n hx hb dX1_leave_4 rfl (lv_at hl 1 rfl) ?_
  refine lv_iconst (v := (3 : Int32)) hx hb dX1_leave_5 (by decide) ?_
  refine lv_iconst (v := (0 : Int32)) hx hb dX1_leave_6 (by decide) ?_
  obtain ⟨q1, hq1, h⟩ := s_bind h
  refine r_callvV (As := [.int p1, .int (3 : Int32), .int (0 : Int32)]) (rest := []) (wc := (wd_X5_put cI cB cZ a_guests a_guests_cells 28 (4 : Int32) (7 : Int32) guests_cells guests_rows)) (w1 := (wd_X5_put cI cB cZ a_guests a_guests_cells 28 (4 : Int32) (7 : Int32) q1 guests_rows)) (ws' := (wd_X1_leave cI cB cZ a_this a_wets a_guests a_guests_cells a_sights a_remarks a_marks a_past q1 guests_rows host rooms night wheels turned)) hx hb hml hown hts hK hA hl hS (c_X5_put l D cI cB cZ a_guests a_guests_cells 28 (4 : Int32) (7 : Int32) guests_cells guests_rows p1 (3 : Int32) (0 : Int32) _ _ hq1) (cwV 3 hts gX1_leave_X5_put rfl rfl rfl (by decide +kernel) ⟨Nat.le_of_ble_eq_true rfl, Nat.le_of_ble_eq_true rfl⟩) 1 rfl rfl [1, 2] rfl rfl rfl [.inl 0, .inr 0, .inr 1] rfl rfl rfl rfl (Nat.le_of_ble_eq_true rfl) dX1_leave_7 (fun H locs hS => ?_)
  obtain rfl := Option.some.inj h
  exact hend _ _ _ _ dX1_leave_10 hS

-- InnTurned$House.sleep(I)V
def wd_X1_sleep (cI cB cZ : ClassId) (a_this : Nat) (a_wets : Nat) (a_guests : Nat) (a_sights : Nat) (a_remarks : Nat) (a_marks : Nat) (a_past : Nat)  (host : Int32) (rooms : Int32) (night : Int32) (wheels : Int32) (turned : Int32) : va_W := [(a_this, .inr (0, [.ref a_wets, .ref a_guests, .ref a_sights, .ref a_remarks, .ref a_marks, .ref a_past, .int host, .int rooms, .int night, .int wheels, .int turned]))]
abbrev rm_X1_sleep : Room := { frames := 1, cells := 0, slots := 0, locals := 21 }
set_option maxRecDepth 20000 in
theorem inX1_X1_sleep : ∀ w ∈ u_ws RX1 TX1 11, w ∈ wsX1_sleep := by decide +kernel
def f_X1_sleep   (night : Int32) (wheels : Int32) (p1 : Int32) : Option (Int32 × Int32) := some ((if (night + p1) < (9999 : Int32) then (night + p1) else (9999 : Int32)), (0 : Int32))
set_option maxHeartbeats 4000000 in
set_option maxRecDepth 100000 in
theorem c_X1_sleep (l : Launch) (D : va_G) (cI cB cZ : ClassId) (a_this : Nat) (a_wets : Nat) (a_guests : Nat) (a_sights : Nat) (a_remarks : Nat) (a_marks : Nat) (a_past : Nat) (host : Int32) (rooms : Int32) (night : Int32) (wheels : Int32) (turned : Int32) (p1 : Int32) (rv : Int32 × Int32) (sz : Nat) (hf : f_X1_sleep night wheels p1 = some rv) : Met l yX1_sleep wsX1_sleep rm_X1_sleep (sPc D vwCl (s_tys cI cB cZ) [.ref a_this, .int p1] (wd_X1_sleep cI cB cZ a_this a_wets a_guests a_sights a_remarks a_marks a_past host rooms night wheels turned) sz) (sQv D vwCl (wd_X1_sleep cI cB cZ a_this a_wets a_guests a_sights a_remarks a_marks a_past host rooms night wheels turned) (wd_X1_sleep cI cB cZ a_this a_wets a_guests a_sights a_remarks a_marks a_past host rooms rv.1 rv.2 turned) sz) 0 0 (va_A (wd_X1_sleep cI cB cZ a_this a_wets a_guests a_sights a_remarks a_marks a_past host rooms night wheels turned) sz) := by
  refine s_enter_v (cc := cX1_sleep) (nL := 2) (by decide) rfl (Nat.le_of_ble_eq_true rfl) ?_
  intro p e s m args below meth c A Q C0 hend ls hl hS
  have h := hf
  clear hf
  replace hl : lv_has ls 2 [(0, .ref a_this), (1, .int p1)] := hl
  unfold f_X1_sleep at h
  obtain ⟨hx, hb, hml, hown, hts, hK, hA⟩ := id C0
  have inX1 : ∀ w ∈ u_ws RX1 TX1 11, w ∈ wsX1_sleep := inX1_X1_sleep
  refine lv_aload_n hx hb dX1_sleep_0 rfl (lv_at hl 0 rfl) ?_
  refine lv_sipush (v := (9999 : Int32)) hx hb dX1_sleep_1 (by decide) ?_
  refine lv_aload_n hx hb dX1_sleep_4 rfl (lv_at hl 0 rfl) ?_
  refine s_get (C := RX1) (T := TX1) (N := 11) hx hb hts inX1 hown hK hS 0 rfl rfl 8 (by decide) (hts (.fieldLink RX1 43 "InnTurned$House" "night" "I") (List.mem_of_getElem? (i := 1) rfl)) rfl rfl dX1_sleep_5 ?_
  refine lv_iload_n hx hb dX1_sleep_8 rfl (lv_at hl 1 rfl) ?_
  refine lv_iadd hx hb dX1_sleep_9 ?_
  refine s_min hx hb hml hl.1 hown (hts (.methodLink RX1 112 Lib.Math.min.name) (List.mem_of_getElem? (i := 2) rfl)) (hts (.static Lib.Math.min.name) (List.mem_of_getElem? (i := 3) rfl)) (hts (.initialized "java/lang/Math") (List.mem_of_getElem? (i := 4) rfl)) (hts (.code Lib.Math.min.name Lib.Math.min.code 2 (some .int)) (List.mem_of_getElem? (i := 5) rfl)) (Nat.le_of_ble_eq_true rfl) (Nat.le_of_ble_eq_true rfl) dX1_sleep_10 ?_
  refine s_put (ws' := (wd_X1_sleep cI cB cZ a_this a_wets a_guests a_sights a_remarks a_marks a_past host rooms (if (night + p1) < (9999 : Int32) then (night + p1) else (9999 : Int32)) wheels turned)) (C := RX1) (T := TX1) (N := 11) hx hb hts inX1 tyX1 tyX1_ok nmX1 hown hK hS 0 rfl rfl 8 (by decide) (hts (.fieldLink RX1 43 "InnTurned$House" "night" "I") (List.mem_of_getElem? (i := 1) rfl)) rfl rfl rfl rfl (Nat.le_of_ble_eq_true rfl) rfl dX1_sleep_13 (fun H locs hS => ?_)
  refine lv_aload_n hx hb dX1_sleep_16 rfl (lv_at hl 0 rfl) ?_
  refine lv_iconst (v := (0 : Int32)) hx hb dX1_sleep_17 (by decide) ?_
  refine s_put (ws' := (wd_X1_sleep cI cB cZ a_this a_wets a_guests a_sights a_remarks a_marks a_past host rooms (if (night + p1) < (9999 : Int32) then (night + p1) else (9999 : Int32)) (0 : Int32) turned)) (C := RX1) (T := TX1) (N := 11) hx hb hts inX1 tyX1 tyX1_ok nmX1 hown hK hS 0 rfl rfl 9 (by decide) (hts (.fieldLink RX1 46 "InnTurned$House" "wheels" "I") (List.mem_of_getElem? (i := 6) rfl)) rfl rfl rfl rfl (Nat.le_of_ble_eq_true rfl) rfl dX1_sleep_18 (fun H locs hS => ?_)
  obtain rfl := Option.some.inj h
  exact hend _ _ _ _ dX1_sleep_21 hS

-- InnTurned$House.happen(I)V
def wd_X1_happen (cI cB cZ : ClassId) (a_this : Nat) (a_wets : Nat) (a_guests : Nat) (a_guests_cells : Nat) (a_sights : Nat) (a_remarks : Nat) (a_marks : Nat) (a_past : Nat)  (wets : (Nat → Int32)) (guests_cells : (Nat → Int32)) (guests_rows : Int32) (host : Int32) (rooms : Int32) (night : Int32) (wheels : Int32) (turned : Int32) : va_W := [(a_this, .inr (0, [.ref a_wets, .ref a_guests, .ref a_sights, .ref a_remarks, .ref a_marks, .ref a_past, .int host, .int rooms, .int night, .int wheels, .int turned])), (a_wets, .inl (cI, 6, .inl wets)), (a_guests, .inr (3, [.int 4, .int 7, .ref a_guests_cells, .int guests_rows])), (a_guests_cells, .inl (cI, 28, .inl guests_cells))]
abbrev rm_X1_happen : Room := { frames := 5, cells := 0, slots := 0, locals := 109 }
set_option maxRecDepth 20000 in
theorem inX1_X1_happen : ∀ w ∈ u_ws RX1 TX1 11, w ∈ wsX1_happen := by decide +kernel
def f_X1_happen  (wets : (Nat → Int32)) (guests_rows : Int32) (host : Int32) (rooms : Int32) (guests_cells : (Nat → Int32)) (night : Int32) (wheels : Int32) (turned : Int32) (p1 : Int32) : Option ((Nat → Int32) × Int32 × Int32 × Int32) := ((f_X1_isThere guests_rows p1).bind fun q1 => (if q1 = 0 then some (guests_cells, (night + (1 : Int32)), (0 : Int32), turned) else ((f_X1_isIn guests_cells guests_rows p1).bind fun q3 => (if q3 = 0 then ((f_X1_arrive wets guests_rows host rooms night guests_cells wheels turned p1).bind fun q5 => some (q5.2.1, night, q5.2.2.1, q5.2.2.2)) else ((f_X1_leave guests_rows guests_cells p1).bind fun q6 => some (q6, night, wheels, turned))))))
set_option maxHeartbeats 4000000 in
set_option maxRecDepth 100000 in
theorem c_X1_happen (l : Launch) (D : va_G) (cI cB cZ : ClassId) (a_this : Nat) (a_wets : Nat) (a_guests : Nat) (a_guests_cells : Nat) (a_sights : Nat) (a_remarks : Nat) (a_marks : Nat) (a_past : Nat) (wets : (Nat → Int32)) (guests_cells : (Nat → Int32)) (guests_rows : Int32) (host : Int32) (rooms : Int32) (night : Int32) (wheels : Int32) (turned : Int32) (p1 : Int32) (rv : (Nat → Int32) × Int32 × Int32 × Int32) (sz : Nat) (hf : f_X1_happen wets guests_rows host rooms guests_cells night wheels turned p1 = some rv) : Met l yX1_happen wsX1_happen rm_X1_happen (sPc D vwCl (s_tys cI cB cZ) [.ref a_this, .int p1] (wd_X1_happen cI cB cZ a_this a_wets a_guests a_guests_cells a_sights a_remarks a_marks a_past wets guests_cells guests_rows host rooms night wheels turned) sz) (sQv D vwCl (wd_X1_happen cI cB cZ a_this a_wets a_guests a_guests_cells a_sights a_remarks a_marks a_past wets guests_cells guests_rows host rooms night wheels turned) (wd_X1_happen cI cB cZ a_this a_wets a_guests a_guests_cells a_sights a_remarks a_marks a_past wets rv.1 guests_rows host rooms rv.2.1 rv.2.2.1 rv.2.2.2) sz) 0 0 (va_A (wd_X1_happen cI cB cZ a_this a_wets a_guests a_guests_cells a_sights a_remarks a_marks a_past wets guests_cells guests_rows host rooms night wheels turned) sz) := by
  refine s_enter_v (cc := cX1_happen) (nL := 2) (by decide) rfl (Nat.le_of_ble_eq_true rfl) ?_
  intro p e s m args below meth c A Q C0 hend ls hl hS
  have h := hf
  clear hf
  replace hl : lv_has ls 2 [(0, .ref a_this), (1, .int p1)] := hl
  unfold f_X1_happen at h
  obtain ⟨hx, hb, hml, hown, hts, hK, hA⟩ := id C0
  have inX1 : ∀ w ∈ u_ws RX1 TX1 11, w ∈ wsX1_happen := inX1_X1_happen
  refine lv_aload_n hx hb dX1_happen_0 rfl (lv_at hl 0 rfl) ?_
  refine lv_iload_n hx hb dX1_happen_1 rfl (lv_at hl 1 rfl) ?_
  obtain ⟨q1, hq1, h⟩ := s_bind h
  refine u_calliV (r := q1) (As := [.int p1]) (rest := []) (wc := (wd_X1_isThere cI cB cZ a_this a_wets a_guests a_guests_cells a_sights a_remarks a_marks a_past guests_rows host rooms night wheels turned)) hx hb hml hown hts hK hA hl hS (c_X1_isThere l D cI cB cZ a_this a_wets a_guests a_guests_cells a_sights a_remarks a_marks a_past guests_rows host rooms night wheels turned p1 _ _ hq1) (cwV 1 hts gX1_happen_X1_isThere rfl rfl rfl (by decide +kernel) ⟨Nat.le_of_ble_eq_true rfl, Nat.le_of_ble_eq_true rfl⟩) 0 rfl rfl [0, 2] rfl rfl rfl rfl (Nat.le_of_ble_eq_true rfl) dX1_happen_2 (fun H locs hS => ?_)
  refine lv_if_ne (tgt := 26) hx hb dX1_happen_5 (by decide) (fun c2 => ?_) (fun c2 => ?_)
  · replace h := s_no c2 h
    refine lv_aload_n hx hb dX1_happen_26 rfl (lv_at hl 0 rfl) ?_
    refine lv_iload_n hx hb dX1_happen_27 rfl (lv_at hl 1 rfl) ?_
    obtain ⟨q3, hq3, h⟩ := s_bind h
    refine u_calliV (r := q3) (As := [.int p1]) (rest := []) (wc := (wd_X1_isIn cI cB cZ a_this a_wets a_guests a_guests_cells a_sights a_remarks a_marks a_past guests_cells guests_rows host rooms night wheels turned)) hx hb hml hown hts hK hA hl hS (c_X1_isIn l D cI cB cZ a_this a_wets a_guests a_guests_cells a_sights a_remarks a_marks a_past guests_cells guests_rows host rooms night wheels turned p1 _ _ hq3) (cwV 1 hts gX1_happen_X1_isIn rfl rfl rfl (by decide +kernel) ⟨Nat.le_of_ble_eq_true rfl, Nat.le_of_ble_eq_true rfl⟩) 0 rfl rfl [0, 2, 3] rfl rfl rfl rfl (Nat.le_of_ble_eq_true rfl) dX1_happen_28 (fun H locs hS => ?_)
    refine lv_if_eq (tgt := 42) hx hb dX1_happen_31 (by decide) (fun c4 => ?_) (fun c4 => ?_)
    · replace h := s_yes c4 h
      refine lv_aload_n hx hb dX1_happen_42 rfl (lv_at hl 0 rfl) ?_
      refine lv_iload_n hx hb dX1_happen_43 rfl (lv_at hl 1 rfl) ?_
      obtain ⟨q5, hq5, h⟩ := s_bind h
      refine r_calliV (r := q5.1) (As := [.int p1]) (rest := []) (wc := (wd_X1_arrive cI cB cZ a_this a_wets a_guests a_guests_cells a_sights a_remarks a_marks a_past wets guests_cells guests_rows host rooms night wheels turned)) (w1 := (wd_X1_arrive cI cB cZ a_this a_wets a_guests a_guests_cells a_sights a_remarks a_marks a_past wets q5.2.1 guests_rows host rooms night q5.2.2.1 q5.2.2.2)) (ws' := (wd_X1_happen cI cB cZ a_this a_wets a_guests a_guests_cells a_sights a_remarks a_marks a_past wets q5.2.1 guests_rows host rooms night q5.2.2.1 q5.2.2.2)) hx hb hml hown hts hK hA hl hS (c_X1_arrive l D cI cB cZ a_this a_wets a_guests a_guests_cells a_sights a_remarks a_marks a_past wets guests_cells guests_rows host rooms night wheels turned p1 _ _ hq5) (cwV 1 hts gX1_happen_X1_arrive rfl rfl rfl (by decide +kernel) ⟨Nat.le_of_ble_eq_true rfl, Nat.le_of_ble_eq_true rfl⟩) 0 rfl rfl [0, 1, 2, 3] rfl rfl rfl [.inr 0, .inr 1, .inr 2, .inr 3] rfl rfl rfl rfl (Nat.le_of_ble_eq_true rfl) dX1_happen_44 (fun H locs hS => ?_)
      refine lv_pop hx hb dX1_happen_47 rfl ?_
      obtain rfl := Option.some.inj h
      exact hend _ _ _ _ dX1_happen_48 hS
    replace h := s_no c4 h
    refine lv_aload_n hx hb dX1_happen_34 rfl (lv_at hl 0 rfl) ?_
    refine lv_iload_n hx hb dX1_happen_35 rfl (lv_at hl 1 rfl) ?_
    obtain ⟨q6, hq6, h⟩ := s_bind h
    refine r_callvV (As := [.int p1]) (rest := []) (wc := (wd_X1_leave cI cB cZ a_this a_wets a_guests a_guests_cells a_sights a_remarks a_marks a_past guests_cells guests_rows host rooms night wheels turned)) (w1 := (wd_X1_leave cI cB cZ a_this a_wets a_guests a_guests_cells a_sights a_remarks a_marks a_past q6 guests_rows host rooms night wheels turned)) (ws' := (wd_X1_happen cI cB cZ a_this a_wets a_guests a_guests_cells a_sights a_remarks a_marks a_past wets q6 guests_rows host rooms night wheels turned)) hx hb hml hown hts hK hA hl hS (c_X1_leave l D cI cB cZ a_this a_wets a_guests a_guests_cells a_sights a_remarks a_marks a_past guests_cells guests_rows host rooms night wheels turned p1 _ _ hq6) (cwV 1 hts gX1_happen_X1_leave rfl rfl rfl (by decide +kernel) ⟨Nat.le_of_ble_eq_true rfl, Nat.le_of_ble_eq_true rfl⟩) 0 rfl rfl [0, 2, 3] rfl rfl rfl [.inr 0, .inl 1, .inr 1, .inr 2] rfl rfl rfl rfl (Nat.le_of_ble_eq_true rfl) dX1_happen_36 (fun H locs hS => ?_)
    refine lv_goto (tgt := 48) hx hb dX1_happen_39 (by decide) ?_
    obtain rfl := Option.some.inj h
    exact hend _ _ _ _ dX1_happen_48 hS
  replace h := s_yes c2 h
  refine lv_aload_n hx hb dX1_happen_8 rfl (lv_at hl 0 rfl) ?_
  refine lv_dup hx hb dX1_happen_9 rfl ?_
  refine s_get (C := RX1) (T := TX1) (N := 11) hx hb hts inX1 hown hK hS 0 rfl rfl 8 (by decide) (hts (.fieldLink RX1 43 "InnTurned$House" "night" "I") (List.mem_of_getElem? (i := 1) rfl)) rfl rfl dX1_happen_10 ?_
  refine lv_iconst (v := (1 : Int32)) hx hb dX1_happen_13 (by decide) ?_
  refine lv_iadd hx hb dX1_happen_14 ?_
  refine s_put (ws' := (wd_X1_happen cI cB cZ a_this a_wets a_guests a_guests_cells a_sights a_remarks a_marks a_past wets guests_cells guests_rows host rooms (night + (1 : Int32)) wheels turned)) (C := RX1) (T := TX1) (N := 11) hx hb hts inX1 tyX1 tyX1_ok nmX1 hown hK hS 0 rfl rfl 8 (by decide) (hts (.fieldLink RX1 43 "InnTurned$House" "night" "I") (List.mem_of_getElem? (i := 1) rfl)) rfl rfl rfl rfl (Nat.le_of_ble_eq_true rfl) rfl dX1_happen_15 (fun H locs hS => ?_)
  refine lv_aload_n hx hb dX1_happen_18 rfl (lv_at hl 0 rfl) ?_
  refine lv_iconst (v := (0 : Int32)) hx hb dX1_happen_19 (by decide) ?_
  refine s_put (ws' := (wd_X1_happen cI cB cZ a_this a_wets a_guests a_guests_cells a_sights a_remarks a_marks a_past wets guests_cells guests_rows host rooms (night + (1 : Int32)) (0 : Int32) turned)) (C := RX1) (T := TX1) (N := 11) hx hb hts inX1 tyX1 tyX1_ok nmX1 hown hK hS 0 rfl rfl 9 (by decide) (hts (.fieldLink RX1 46 "InnTurned$House" "wheels" "I") (List.mem_of_getElem? (i := 2) rfl)) rfl rfl rfl rfl (Nat.le_of_ble_eq_true rfl) rfl dX1_happen_20 (fun H locs hS => ?_)
  refine lv_goto (tgt := 48) hx hb dX1_happen_23 (by decide) ?_
  obtain rfl := Option.some.inj h
  exact hend _ _ _ _ dX1_happen_48 hS

-- InnTurned$Table.dropFirst()V
def wd_X5_dropFirst (cI cB cZ : ClassId) (a_this : Nat) (a_cells : Nat) (n_cells : Nat) (width : Int32) (most : Int32) (cells : (Nat → Int32)) (rows : Int32) : va_W := [(a_this, .inr (3, [.int width, .int most, .ref a_cells, .int rows])), (a_cells, .inl (cI, n_cells, .inl cells))]
abbrev rm_X5_dropFirst : Room := { frames := 1, cells := 0, slots := 0, locals := 40 }
set_option maxRecDepth 20000 in
theorem inX5_X5_dropFirst : ∀ w ∈ u_ws RX5 TX5 4, w ∈ wsX5_dropFirst := by decide +kernel
def f_X5_dropFirst (n_cells : Nat) (width : Int32) (cells : (Nat → Int32)) (rows : Int32) : Option ((Nat → Int32) × Int32) := (if rows = 0 then some (cells, rows) else (if (¬ width < 0) ∧ (¬ (0 : Int32) < 0) ∧ (¬ ((rows - (1 : Int32)) * width) < 0) ∧ (Int32.toNatClampNeg width) + (Int32.toNatClampNeg ((rows - (1 : Int32)) * width)) ≤ n_cells ∧ (Int32.toNatClampNeg (0 : Int32)) + (Int32.toNatClampNeg ((rows - (1 : Int32)) * width)) ≤ n_cells then some ((va_cpy cells cells (Int32.toNatClampNeg width) (Int32.toNatClampNeg (0 : Int32)) (Int32.toNatClampNeg ((rows - (1 : Int32)) * width))), (rows - (1 : Int32))) else none))
set_option maxHeartbeats 4000000 in
set_option maxRecDepth 100000 in
theorem c_X5_dropFirst (l : Launch) (D : va_G) (cI cB cZ : ClassId) (a_this : Nat) (a_cells : Nat) (n_cells : Nat) (width : Int32) (most : Int32) (cells : (Nat → Int32)) (rows : Int32) (rv : (Nat → Int32) × Int32) (sz : Nat) (hf : f_X5_dropFirst n_cells width cells rows = some rv) : Met l yX5_dropFirst wsX5_dropFirst rm_X5_dropFirst (sPc D vwCl (s_tys cI cB cZ) [.ref a_this] (wd_X5_dropFirst cI cB cZ a_this a_cells n_cells width most cells rows) sz) (sQv D vwCl (wd_X5_dropFirst cI cB cZ a_this a_cells n_cells width most cells rows) (wd_X5_dropFirst cI cB cZ a_this a_cells n_cells width most rv.1 rv.2) sz) 0 0 (va_A (wd_X5_dropFirst cI cB cZ a_this a_cells n_cells width most cells rows) sz) := by
  refine s_enter_v (cc := cX5_dropFirst) (nL := 1) (by decide) rfl (Nat.le_of_ble_eq_true rfl) ?_
  intro p e s m args below meth c A Q C0 hend ls hl hS
  have h := hf
  clear hf
  replace hl : lv_has ls 1 [(0, .ref a_this)] := hl
  unfold f_X5_dropFirst at h
  obtain ⟨hx, hb, hml, hown, hts, hK, hA⟩ := id C0
  have inX5 : ∀ w ∈ u_ws RX5 TX5 4, w ∈ wsX5_dropFirst := inX5_X5_dropFirst
  refine lv_aload_n hx hb dX5_dropFirst_0 rfl (lv_at hl 0 rfl) ?_
  refine s_get (C := RX5) (T := TX5) (N := 4) hx hb hts inX5 hown hK hS 0 rfl rfl 3 (by decide) (hts (.fieldLink RX5 28 "InnTurned$Table" "rows" "I") (List.mem_of_getElem? (i := 1) rfl)) rfl rfl dX5_dropFirst_1 ?_
  refine lv_if_ne (tgt := 8) hx hb dX5_dropFirst_4 (by decide) (fun c1 => ?_) (fun c1 => ?_)
  · replace h := s_no c1 h
    refine lv_aload_n hx hb dX5_dropFirst_8 rfl (lv_at hl 0 rfl) ?_
    refine lv_dup hx hb dX5_dropFirst_9 rfl ?_
    refine s_get (C := RX5) (T := TX5) (N := 4) hx hb hts inX5 hown hK hS 0 rfl rfl 3 (by decide) (hts (.fieldLink RX5 28 "InnTurned$Table" "rows" "I") (List.mem_of_getElem? (i := 1) rfl)) rfl rfl dX5_dropFirst_10 ?_
    refine lv_iconst (v := (1 : Int32)) hx hb dX5_dropFirst_13 (by decide) ?_
    refine lv_isub hx hb dX5_dropFirst_14 ?_
    refine s_put (ws' := (wd_X5_dropFirst cI cB cZ a_this a_cells n_cells width most cells (rows - (1 : Int32)))) (C := RX5) (T := TX5) (N := 4) hx hb hts inX5 tyX5 tyX5_ok nmX5 hown hK hS 0 rfl rfl 3 (by decide) (hts (.fieldLink RX5 28 "InnTurned$Table" "rows" "I") (List.mem_of_getElem? (i := 1) rfl)) rfl rfl rfl rfl (Nat.le_of_ble_eq_true rfl) rfl dX5_dropFirst_15 (fun H locs hS => ?_)
    refine lv_aload_n hx hb dX5_dropFirst_18 rfl (lv_at hl 0 rfl) ?_
    refine s_get (C := RX5) (T := TX5) (N := 4) hx hb hts inX5 hown hK hS 0 rfl rfl 2 (by decide) (hts (.fieldLink RX5 24 "InnTurned$Table" "cells" "[I") (List.mem_of_getElem? (i := 2) rfl)) rfl rfl dX5_dropFirst_19 ?_
    refine lv_aload_n hx hb dX5_dropFirst_22 rfl (lv_at hl 0 rfl) ?_
    refine s_get (C := RX5) (T := TX5) (N := 4) hx hb hts inX5 hown hK hS 0 rfl rfl 0 (by decide) (hts (.fieldLink RX5 15 "InnTurned$Table" "width" "I") (List.mem_of_getElem? (i := 3) rfl)) rfl rfl dX5_dropFirst_23 ?_
    refine lv_aload_n hx hb dX5_dropFirst_26 rfl (lv_at hl 0 rfl) ?_
    refine s_get (C := RX5) (T := TX5) (N := 4) hx hb hts inX5 hown hK hS 0 rfl rfl 2 (by decide) (hts (.fieldLink RX5 24 "InnTurned$Table" "cells" "[I") (List.mem_of_getElem? (i := 2) rfl)) rfl rfl dX5_dropFirst_27 ?_
    refine lv_iconst (v := (0 : Int32)) hx hb dX5_dropFirst_30 (by decide) ?_
    refine lv_aload_n hx hb dX5_dropFirst_31 rfl (lv_at hl 0 rfl) ?_
    refine s_get (C := RX5) (T := TX5) (N := 4) hx hb hts inX5 hown hK hS 0 rfl rfl 3 (by decide) (hts (.fieldLink RX5 28 "InnTurned$Table" "rows" "I") (List.mem_of_getElem? (i := 1) rfl)) rfl rfl dX5_dropFirst_32 ?_
    refine lv_aload_n hx hb dX5_dropFirst_35 rfl (lv_at hl 0 rfl) ?_
    refine s_get (C := RX5) (T := TX5) (N := 4) hx hb hts inX5 hown hK hS 0 rfl rfl 0 (by decide) (hts (.fieldLink RX5 15 "InnTurned$Table" "width" "I") (List.mem_of_getElem? (i := 3) rfl)) rfl rfl dX5_dropFirst_36 ?_
    refine lv_imul hx hb dX5_dropFirst_39 ?_
    obtain ⟨g2, h⟩ := s_guard h
    refine s_copyi (ws' := (wd_X5_dropFirst cI cB cZ a_this a_cells n_cells width most (va_cpy cells cells (Int32.toNatClampNeg width) (Int32.toNatClampNeg (0 : Int32)) (Int32.toNatClampNeg ((rows - (1 : Int32)) * width))) (rows - (1 : Int32)))) hx hb hml hl.1 hown (hts (.methodLink RX5 39 arraycopyName) (List.mem_of_getElem? (i := 4) rfl)) (hts (.native arraycopyName) (List.mem_of_getElem? (i := 5) rfl)) (hts (.static arraycopyName) (List.mem_of_getElem? (i := 6) rfl)) (hts (.initialized "java/lang/System") (List.mem_of_getElem? (i := 7) rfl)) hK hS 1 1 rfl rfl rfl rfl g2 (Nat.le_of_ble_eq_true rfl) (Nat.le_of_ble_eq_true rfl) rfl dX5_dropFirst_40 (fun H locs hS => ?_)
    obtain rfl := Option.some.inj h
    exact hend _ _ _ _ dX5_dropFirst_43 hS
  replace h := s_yes c1 h
  obtain rfl := Option.some.inj h
  exact hend _ _ _ _ dX5_dropFirst_7 hS

-- InnTurned$House.pastColumn(II)I
abbrev rm_X1_pastColumn : Room := { frames := 0, cells := 0, slots := 0, locals := 0 }
def f_X1_pastColumn    (p1 : Int32) (p2 : Int32) : Option (Int32) := some (((((3 : Int32) + ((3 : Int32) * p1)) + p2) - (1 : Int32)))
set_option maxHeartbeats 4000000 in
set_option maxRecDepth 100000 in
theorem c_X1_pastColumn (l : Launch) (D : va_G) (cI cB cZ : ClassId) (p1 : Int32) (p2 : Int32) (rv : Int32) (sz : Nat) (hf : f_X1_pastColumn p1 p2 = some rv) : Met l yX1_pastColumn wsX1_pastColumn rm_X1_pastColumn (sPc D vwCl (s_tys cI cB cZ) [.int p1, .int p2] ([] : va_W) sz) (sQi D vwCl ([] : va_W) ([] : va_W) sz rv) 0 0 (va_A ([] : va_W) sz) := by
  refine s_enter_n (cc := cX1_pastColumn) (nL := 2) (r := rv) (by decide) rfl (Nat.le_of_ble_eq_true rfl) ?_
  intro p e s m args below meth c A Q C0 hend ls hl hS
  have h := hf
  clear hf
  replace hl : lv_has ls 2 [(0, .int p1), (1, .int p2)] := hl
  unfold f_X1_pastColumn at h
  obtain ⟨hx, hb, hml, hown, hts, hK, hA⟩ := id C0
  refine lv_iconst (v := (3 : Int32)) hx hb dX1_pastColumn_0 (by decide) ?_
  refine lv_iconst (v := (3 : Int32)) hx hb dX1_pastColumn_1 (by decide) ?_
  refine lv_iload_n hx hb dX1_pastColumn_2 rfl (lv_at hl 0 rfl) ?_
  refine lv_imul hx hb dX1_pastColumn_3 ?_
  refine lv_iadd hx hb dX1_pastColumn_4 ?_
  refine lv_iload_n hx hb dX1_pastColumn_5 rfl (lv_at hl 1 rfl) ?_
  refine lv_iadd hx hb dX1_pastColumn_6 ?_
  refine lv_iconst (v := (1 : Int32)) hx hb dX1_pastColumn_7 (by decide) ?_
  refine lv_isub hx hb dX1_pastColumn_8 ?_
  obtain rfl := Option.some.inj h
  exact hend _ _ _ _ dX1_pastColumn_9 hS

-- InnTurned$House.keep()V
def wd_X1_keep (cI cB cZ : ClassId) (a_this : Nat) (a_wets : Nat) (a_guests : Nat) (a_guests_cells : Nat) (a_sights : Nat) (a_remarks : Nat) (a_marks : Nat) (a_past : Nat) (a_past_cells : Nat)  (guests_cells : (Nat → Int32)) (guests_rows : Int32) (past_cells : (Nat → Int32)) (past_rows : Int32) (host : Int32) (rooms : Int32) (night : Int32) (wheels : Int32) (turned : Int32) : va_W := [(a_this, .inr (0, [.ref a_wets, .ref a_guests, .ref a_sights, .ref a_remarks, .ref a_marks, .ref a_past, .int host, .int rooms, .int night, .int wheels, .int turned])), (a_guests, .inr (3, [.int 4, .int 7, .ref a_guests_cells, .int guests_rows])), (a_guests_cells, .inl (cI, 28, .inl guests_cells)), (a_past, .inr (3, [.int 24, .int 8, .ref a_past_cells, .int past_rows])), (a_past_cells, .inl (cI, 192, .inl past_cells))]
abbrev rm_X1_keep : Room := { frames := 2, cells := 0, slots := 0, locals := 60 }
set_option maxRecDepth 20000 in
theorem inX1_X1_keep : ∀ w ∈ u_ws RX1 TX1 11, w ∈ wsX1_keep := by decide +kernel
set_option maxRecDepth 20000 in
theorem inX5_X1_keep : ∀ w ∈ u_ws RX5 TX5 4, w ∈ wsX1_keep := by decide +kernel
def f_X1_keep_b79 (k_b66 : (Nat → Int32) → Int32 → Int32 → Int32 → Option ((Nat → Int32) × Int32))  (guests_cells : (Nat → Int32)) (guests_rows : Int32) (night : Int32) (wheels : Int32) (turned : Int32) : Nat → (Nat → Int32) → Int32 → Int32 → Int32 → Int32 → Option ((Nat → Int32) × Int32)
  | 0, _, _, _, _, _ => none
  | fu + 1, past_cells, past_rows, l1, l2, l3 => (if (3 : Int32) < l3 then k_b66 past_cells past_rows l1 (l2 + (1 : Int32)) else ((f_X1_pastColumn l2 l3).bind fun q2 => ((f_X5_cell 28 (4 : Int32) guests_cells guests_rows l2 l3).bind fun q3 => ((f_X5_put 192 (24 : Int32) past_rows past_cells l1 q2 q3).bind fun q4 => (f_X1_keep_b79 k_b66 guests_cells guests_rows night wheels turned fu) q4 past_rows l1 l2 (l3 + (1 : Int32))))))
set_option maxHeartbeats 4000000 in
set_option maxRecDepth 100000 in
theorem w_X1_keep_b79 {p : Program} {l : Launch} {e : Env} {s : State} {m : MethodId} {args : Array Value} {below : List Frame} {meth : Method} {c : Code} {A : Nat → Prop} {Q : State → Prop} {D : va_G} {cI cB cZ : ClassId} {a_this a_wets a_guests a_guests_cells a_sights a_remarks a_marks a_past a_past_cells : Nat} {guests_cells : (Nat → Int32)} {guests_rows : Int32} {host : Int32} {rooms : Int32} {night : Int32} {wheels : Int32} {turned : Int32} (C0 : Cx p s m args c cX1_keep 4 RX1 wsX1_keep D (s_tys cI cB cZ) A) {rv : (Nat → Int32) × Int32} (hend : ∀ (pc : Nat) (H : Heap) (locs : List Loc) (ls : Array Slot), decode cX1_keep pc = .ok (.return_, 1) → sS D vwCl A s.heap (wd_X1_keep cI cB cZ a_this a_wets a_guests a_guests_cells a_sights a_remarks a_marks a_past a_past_cells guests_cells guests_rows rv.1 rv.2 host rooms night wheels turned) H locs → W p l e rm_X1_keep s m args below meth c H locs 0 0 Q (F0 m pc ls [])) (k_b66 : (Nat → Int32) → Int32 → Int32 → Int32 → Option ((Nat → Int32) × Int32)) (hk_b66 : ∀ (past_cells : (Nat → Int32)) (past_rows : Int32) (l1 : Int32) (l2 : Int32) (H : Heap) (locs : List Loc) (ls : Array Slot), k_b66 past_cells past_rows l1 l2 = some rv → sS D vwCl A s.heap (wd_X1_keep cI cB cZ a_this a_wets a_guests a_guests_cells a_sights a_remarks a_marks a_past a_past_cells guests_cells guests_rows past_cells past_rows host rooms night wheels turned) H locs → lv_has ls 4 [(0, .ref a_this), (1, .int l1), (2, .int l2)] → W p l e rm_X1_keep s m args below meth c H locs 0 0 Q (F0 m 66 ls [])) : ∀ (fu : Nat) (past_cells : (Nat → Int32)) (past_rows : Int32) (l1 : Int32) (l2 : Int32) (l3 : Int32) (H : Heap) (locs : List Loc) (ls : Array Slot), f_X1_keep_b79 k_b66 guests_cells guests_rows night wheels turned fu past_cells past_rows l1 l2 l3 = some rv → sS D vwCl A s.heap (wd_X1_keep cI cB cZ a_this a_wets a_guests a_guests_cells a_sights a_remarks a_marks a_past a_past_cells guests_cells guests_rows past_cells past_rows host rooms night wheels turned) H locs → lv_has ls 4 [(0, .ref a_this), (1, .int l1), (2, .int l2), (3, .int l3)] → W p l e rm_X1_keep s m args below meth c H locs 0 0 Q (F0 m 79 ls []) := by
  obtain ⟨hx, hb, hml, hown, hts, hK, hA⟩ := id C0
  have inX1 : ∀ w ∈ u_ws RX1 TX1 11, w ∈ wsX1_keep := inX1_X1_keep
  have inX5 : ∀ w ∈ u_ws RX5 TX5 4, w ∈ wsX1_keep := inX5_X1_keep
  intro fu
  induction fu with
  | zero => intro past_cells past_rows l1 l2 l3 H locs ls h; cases h
  | succ fu ih =>
    intro past_cells past_rows l1 l2 l3 H locs ls h hS hl
    rw [f_X1_keep_b79] at h
    refine lv_iload_n hx hb dX1_keep_79 rfl (lv_at hl 3 rfl) ?_
    refine lv_iconst (v := (3 : Int32)) hx hb dX1_keep_80 (by decide) ?_
    refine lv_icmp_gt (tgt := 112) hx hb dX1_keep_81 (by decide) (fun c1 => ?_) (fun c1 => ?_)
    · replace h := s_yes c1 h
      refine lv_iinc (v := (l2 + (1 : Int32))) (lv' := [(2, .int (l2 + (1 : Int32))), (0, .ref a_this), (1, .int l1), (3, .int l3)]) hx hb dX1_keep_112 hl (k := 2) rfl rfl (by decide) rfl (fun ls hl => ?_)
      refine lv_goto (tgt := 66) hx hb dX1_keep_115 (by decide) ?_
      exact hk_b66 past_cells past_rows l1 (l2 + (1 : Int32)) _ _ _ h hS (lv_sub hl [1, 2, 0] rfl)
    replace h := s_no c1 h
    refine lv_aload_n hx hb dX1_keep_84 rfl (lv_at hl 0 rfl) ?_
    refine s_get (C := RX1) (T := TX1) (N := 11) hx hb hts inX1 hown hK hS 0 rfl rfl 5 (by decide) (hts (.fieldLink RX1 33 "InnTurned$House" "past" "LInnTurned$Table;") (List.mem_of_getElem? (i := 1) rfl)) rfl rfl dX1_keep_85 ?_
    refine lv_iload_n hx hb dX1_keep_88 rfl (lv_at hl 1 rfl) ?_
    refine lv_iload_n hx hb dX1_keep_89 rfl (lv_at hl 2 rfl) ?_
    refine lv_iload_n hx hb dX1_keep_90 rfl (lv_at hl 3 rfl) ?_
    obtain ⟨q2, hq2, h⟩ := s_bind h
    refine u_calliS (r := q2) (As := [.int l2, .int l3]) (rest := [.int l1, .ref a_past]) (wc := ([] : va_W)) hx hb hml hown hts hK hA hl hS (c_X1_pastColumn l D cI cB cZ l2 l3 _ _ hq2) (va_cwS 2 hts gX1_keep_X1_pastColumn rfl rfl rfl (by decide +kernel) ⟨Nat.le_of_ble_eq_true rfl, Nat.le_of_ble_eq_true rfl⟩) [] rfl rfl rfl rfl (Nat.le_of_ble_eq_true rfl) dX1_keep_91 (fun H locs hS => ?_)
    refine lv_aload_n hx hb dX1_keep_94 rfl (lv_at hl 0 rfl) ?_
    refine s_get (C := RX1) (T := TX1) (N := 11) hx hb hts inX1 hown hK hS 0 rfl rfl 1 (by decide) (hts (.fieldLink RX1 20 "InnTurned$House" "guests" "LInnTurned$Table;") (List.mem_of_getElem? (i := 5) rfl)) rfl rfl dX1_keep_95 ?_
    refine lv_iload_n hx hb dX1_keep_98 rfl (lv_at hl 2 rfl) ?_
    refine lv_iload_n hx hb dX1_keep_99 rfl (lv_at hl 3 rfl) ?_
    obtain ⟨q3, hq3, h⟩ := s_bind h
    refine u_calliV (r := q3) (As := [.int l2, .int l3]) (rest := [.int q2, .int l1, .ref a_past]) (wc := (wd_X5_cell cI cB cZ a_guests a_guests_cells 28 (4 : Int32) (7 : Int32) guests_cells guests_rows)) hx hb hml hown hts hK hA hl hS (c_X5_cell l D cI cB cZ a_guests a_guests_cells 28 (4 : Int32) (7 : Int32) guests_cells guests_rows l2 l3 _ _ hq3) (cwV 2 hts gX1_keep_X5_cell rfl rfl rfl (by decide +kernel) ⟨Nat.le_of_ble_eq_true rfl, Nat.le_of_ble_eq_true rfl⟩) 1 rfl rfl [1, 2] rfl rfl rfl rfl (Nat.le_of_ble_eq_true rfl) dX1_keep_100 (fun H locs hS => ?_)
    obtain ⟨q4, hq4, h⟩ := s_bind h
    refine r_callvV (As := [.int l1, .int q2, .int q3]) (rest := []) (wc := (wd_X5_put cI cB cZ a_past a_past_cells 192 (24 : Int32) (8 : Int32) past_cells past_rows)) (w1 := (wd_X5_put cI cB cZ a_past a_past_cells 192 (24 : Int32) (8 : Int32) q4 past_rows)) (ws' := (wd_X1_keep cI cB cZ a_this a_wets a_guests a_guests_cells a_sights a_remarks a_marks a_past a_past_cells guests_cells guests_rows q4 past_rows host rooms night wheels turned)) hx hb hml hown hts hK hA hl hS (c_X5_put l D cI cB cZ a_past a_past_cells 192 (24 : Int32) (8 : Int32) past_cells past_rows l1 q2 q3 _ _ hq4) (cwV 3 hts gX1_keep_X5_put rfl rfl rfl (by decide +kernel) ⟨Nat.le_of_ble_eq_true rfl, Nat.le_of_ble_eq_true rfl⟩) 3 rfl rfl [3, 4] rfl rfl rfl [.inl 0, .inl 1, .inl 2, .inr 0, .inr 1] rfl rfl rfl rfl (Nat.le_of_ble_eq_true rfl) dX1_keep_103 (fun H locs hS => ?_)
    refine lv_iinc (v := (l3 + (1 : Int32))) (lv' := [(3, .int (l3 + (1 : Int32))), (0, .ref a_this), (1, .int l1), (2, .int l2)]) hx hb dX1_keep_106 hl (k := 3) rfl rfl (by decide) rfl (fun ls hl => ?_)
    refine lv_goto (tgt := 79) hx hb dX1_keep_109 (by decide) ?_
    exact ih q4 past_rows l1 l2 (l3 + (1 : Int32)) _ _ _ h hS (lv_sub hl [1, 2, 3, 0] rfl)
def f_X1_keep_b66  (guests_cells : (Nat → Int32)) (guests_rows : Int32) (night : Int32) (wheels : Int32) (turned : Int32) : Nat → (Nat → Int32) → Int32 → Int32 → Int32 → Option ((Nat → Int32) × Int32)
  | 0, _, _, _, _ => none
  | fu + 1, past_cells, past_rows, l1, l2 => (if guests_rows ≤ l2 then some (past_cells, past_rows) else f_X1_keep_b79 (f_X1_keep_b66 guests_cells guests_rows night wheels turned fu) guests_cells guests_rows night wheels turned s_fuel past_cells past_rows l1 l2 (1 : Int32))
set_option maxHeartbeats 4000000 in
set_option maxRecDepth 100000 in
theorem w_X1_keep_b66 {p : Program} {l : Launch} {e : Env} {s : State} {m : MethodId} {args : Array Value} {below : List Frame} {meth : Method} {c : Code} {A : Nat → Prop} {Q : State → Prop} {D : va_G} {cI cB cZ : ClassId} {a_this a_wets a_guests a_guests_cells a_sights a_remarks a_marks a_past a_past_cells : Nat} {guests_cells : (Nat → Int32)} {guests_rows : Int32} {host : Int32} {rooms : Int32} {night : Int32} {wheels : Int32} {turned : Int32} (C0 : Cx p s m args c cX1_keep 4 RX1 wsX1_keep D (s_tys cI cB cZ) A) {rv : (Nat → Int32) × Int32} (hend : ∀ (pc : Nat) (H : Heap) (locs : List Loc) (ls : Array Slot), decode cX1_keep pc = .ok (.return_, 1) → sS D vwCl A s.heap (wd_X1_keep cI cB cZ a_this a_wets a_guests a_guests_cells a_sights a_remarks a_marks a_past a_past_cells guests_cells guests_rows rv.1 rv.2 host rooms night wheels turned) H locs → W p l e rm_X1_keep s m args below meth c H locs 0 0 Q (F0 m pc ls [])) : ∀ (fu : Nat) (past_cells : (Nat → Int32)) (past_rows : Int32) (l1 : Int32) (l2 : Int32) (H : Heap) (locs : List Loc) (ls : Array Slot), f_X1_keep_b66 guests_cells guests_rows night wheels turned fu past_cells past_rows l1 l2 = some rv → sS D vwCl A s.heap (wd_X1_keep cI cB cZ a_this a_wets a_guests a_guests_cells a_sights a_remarks a_marks a_past a_past_cells guests_cells guests_rows past_cells past_rows host rooms night wheels turned) H locs → lv_has ls 4 [(0, .ref a_this), (1, .int l1), (2, .int l2)] → W p l e rm_X1_keep s m args below meth c H locs 0 0 Q (F0 m 66 ls []) := by
  obtain ⟨hx, hb, hml, hown, hts, hK, hA⟩ := id C0
  have inX1 : ∀ w ∈ u_ws RX1 TX1 11, w ∈ wsX1_keep := inX1_X1_keep
  have inX5 : ∀ w ∈ u_ws RX5 TX5 4, w ∈ wsX1_keep := inX5_X1_keep
  intro fu
  induction fu with
  | zero => intro past_cells past_rows l1 l2 H locs ls h; cases h
  | succ fu ih =>
    intro past_cells past_rows l1 l2 H locs ls h hS hl
    rw [f_X1_keep_b66] at h
    refine lv_iload_n hx hb dX1_keep_66 rfl (lv_at hl 2 rfl) ?_
    refine lv_aload_n hx hb dX1_keep_67 rfl (lv_at hl 0 rfl) ?_
    refine s_get (C := RX1) (T := TX1) (N := 11) hx hb hts inX1 hown hK hS 0 rfl rfl 1 (by decide) (hts (.fieldLink RX1 20 "InnTurned$House" "guests" "LInnTurned$Table;") (List.mem_of_getElem? (i := 5) rfl)) rfl rfl dX1_keep_68 ?_
    refine s_getN (C := RX5) (T := TX5) (N := 4) hx hb hts inX5 hown hK hS 1 rfl rfl 3 (by decide) 4 rfl rfl rfl dX1_keep_71 ?_
    refine lv_icmp_ge (tgt := 118) hx hb dX1_keep_74 (by decide) (fun c5 => ?_) (fun c5 => ?_)
    · replace h := s_yes c5 h
      obtain rfl := Option.some.inj h
      exact hend _ _ _ _ dX1_keep_118 hS
    replace h := s_no c5 h
    refine lv_iconst (v := (1 : Int32)) hx hb dX1_keep_77 (by decide) ?_
    refine lv_istore_n (lv' := [(3, .int (1 : Int32)), (0, .ref a_this), (1, .int l1), (2, .int l2)]) hx hb dX1_keep_78 rfl hl (by decide) rfl (fun ls hl => ?_)
    exact w_X1_keep_b79 C0 hend (f_X1_keep_b66 guests_cells guests_rows night wheels turned fu) ih s_fuel past_cells past_rows l1 l2 (1 : Int32) _ _ _ h hS (lv_sub hl [1, 2, 3, 0] rfl)
def f_X1_keep_b17  (guests_cells : (Nat → Int32)) (guests_rows : Int32) (night : Int32) (wheels : Int32) (turned : Int32) (past_cells : (Nat → Int32)) (past_rows : Int32) : Option ((Nat → Int32) × Int32) := ((f_X5_append 192 (24 : Int32) (8 : Int32) past_cells past_rows).bind fun q6 => ((f_X5_put 192 (24 : Int32) q6.2.2 q6.2.1 q6.1 (0 : Int32) night).bind fun q7 => ((f_X5_put 192 (24 : Int32) q6.2.2 q7 q6.1 (1 : Int32) wheels).bind fun q8 => ((f_X5_put 192 (24 : Int32) q6.2.2 q8 q6.1 (2 : Int32) turned).bind fun q9 => f_X1_keep_b66  guests_cells guests_rows night wheels turned s_fuel q9 q6.2.2 q6.1 (0 : Int32)))))
set_option maxHeartbeats 4000000 in
set_option maxRecDepth 100000 in
theorem w_X1_keep_b17 {p : Program} {l : Launch} {e : Env} {s : State} {m : MethodId} {args : Array Value} {below : List Frame} {meth : Method} {c : Code} {A : Nat → Prop} {Q : State → Prop} {D : va_G} {cI cB cZ : ClassId} {a_this a_wets a_guests a_guests_cells a_sights a_remarks a_marks a_past a_past_cells : Nat} {guests_cells : (Nat → Int32)} {guests_rows : Int32} {host : Int32} {rooms : Int32} {night : Int32} {wheels : Int32} {turned : Int32} (C0 : Cx p s m args c cX1_keep 4 RX1 wsX1_keep D (s_tys cI cB cZ) A) {rv : (Nat → Int32) × Int32} (hend : ∀ (pc : Nat) (H : Heap) (locs : List Loc) (ls : Array Slot), decode cX1_keep pc = .ok (.return_, 1) → sS D vwCl A s.heap (wd_X1_keep cI cB cZ a_this a_wets a_guests a_guests_cells a_sights a_remarks a_marks a_past a_past_cells guests_cells guests_rows rv.1 rv.2 host rooms night wheels turned) H locs → W p l e rm_X1_keep s m args below meth c H locs 0 0 Q (F0 m pc ls [])) : ∀ (past_cells : (Nat → Int32)) (past_rows : Int32) (H : Heap) (locs : List Loc) (ls : Array Slot), f_X1_keep_b17 guests_cells guests_rows night wheels turned past_cells past_rows = some rv → sS D vwCl A s.heap (wd_X1_keep cI cB cZ a_this a_wets a_guests a_guests_cells a_sights a_remarks a_marks a_past a_past_cells guests_cells guests_rows past_cells past_rows host rooms night wheels turned) H locs → lv_has ls 4 [(0, .ref a_this)] → W p l e rm_X1_keep s m args below meth c H locs 0 0 Q (F0 m 17 ls []) := by
  obtain ⟨hx, hb, hml, hown, hts, hK, hA⟩ := id C0
  have inX1 : ∀ w ∈ u_ws RX1 TX1 11, w ∈ wsX1_keep := inX1_X1_keep
  have inX5 : ∀ w ∈ u_ws RX5 TX5 4, w ∈ wsX1_keep := inX5_X1_keep
  intro past_cells past_rows H locs ls h hS hl
  unfold f_X1_keep_b17 at h
  refine lv_aload_n hx hb dX1_keep_17 rfl (lv_at hl 0 rfl) ?_
  refine s_get (C := RX1) (T := TX1) (N := 11) hx hb hts inX1 hown hK hS 0 rfl rfl 5 (by decide) (hts (.fieldLink RX1 33 "InnTurned$House" "past" "LInnTurned$Table;") (List.mem_of_getElem? (i := 1) rfl)) rfl rfl dX1_keep_18 ?_
  obtain ⟨q6, hq6, h⟩ := s_bind h
  refine r_calliV (r := q6.1) (As := []) (rest := []) (wc := (wd_X5_append cI cB cZ a_past a_past_cells 192 (24 : Int32) (8 : Int32) past_cells past_rows)) (w1 := (wd_X5_append cI cB cZ a_past a_past_cells 192 (24 : Int32) (8 : Int32) q6.2.1 q6.2.2)) (ws' := (wd_X1_keep cI cB cZ a_this a_wets a_guests a_guests_cells a_sights a_remarks a_marks a_past a_past_cells guests_cells guests_rows q6.2.1 q6.2.2 host rooms night wheels turned)) hx hb hml hown hts hK hA hl hS (c_X5_append l D cI cB cZ a_past a_past_cells 192 (24 : Int32) (8 : Int32) past_cells past_rows _ _ hq6) (cwV 0 hts gX1_keep_X5_append rfl rfl rfl (by decide +kernel) ⟨Nat.le_of_ble_eq_true rfl, Nat.le_of_ble_eq_true rfl⟩) 3 rfl rfl [3, 4] rfl rfl rfl [.inl 0, .inl 1, .inl 2, .inr 0, .inr 1] rfl rfl rfl rfl (Nat.le_of_ble_eq_true rfl) dX1_keep_21 (fun H locs hS => ?_)
  refine lv_istore_n (lv' := [(1, .int q6.1), (0, .ref a_this)]) hx hb dX1_keep_24 rfl hl (by decide) rfl (fun ls hl => ?_)
  refine lv_aload_n hx hb dX1_keep_25 rfl (lv_at hl 1 rfl) ?_
  refine s_get (C := RX1) (T := TX1) (N := 11) hx hb hts inX1 hown hK hS 0 rfl rfl 5 (by decide) (hts (.fieldLink RX1 33 "InnTurned$House" "past" "LInnTurned$Table;") (List.mem_of_getElem? (i := 1) rfl)) rfl rfl dX1_keep_26 ?_
  refine lv_iload_n hx hb dX1_keep_29 rfl (lv_at hl 0 rfl) ?_
  refine lv_iconst (v := (0 : Int32)) hx hb dX1_keep_30 (by decide) ?_
  refine lv_aload_n hx hb dX1_keep_31 rfl (lv_at hl 1 rfl) ?_
  refine s_get (C := RX1) (T := TX1) (N := 11) hx hb hts inX1 hown hK hS 0 rfl rfl 8 (by decide) (hts (.fieldLink RX1 43 "InnTurned$House" "night" "I") (List.mem_of_getElem? (i := 2) rfl)) rfl rfl dX1_keep_32 ?_
  obtain ⟨q7, hq7, h⟩ := s_bind h
  refine r_callvV (As := [.int q6.1, .int (0 : Int32), .int night]) (rest := []) (wc := (wd_X5_put cI cB cZ a_past a_past_cells 192 (24 : Int32) (8 : Int32) q6.2.1 q6.2.2)) (w1 := (wd_X5_put cI cB cZ a_past a_past_cells 192 (24 : Int32) (8 : Int32) q7 q6.2.2)) (ws' := (wd_X1_keep cI cB cZ a_this a_wets a_guests a_guests_cells a_sights a_remarks a_marks a_past a_past_cells guests_cells guests_rows q7 q6.2.2 host rooms night wheels turned)) hx hb hml hown hts hK hA hl hS (c_X5_put l D cI cB cZ a_past a_past_cells 192 (24 : Int32) (8 : Int32) q6.2.1 q6.2.2 q6.1 (0 : Int32) night _ _ hq7) (cwV 3 hts gX1_keep_X5_put rfl rfl rfl (by decide +kernel) ⟨Nat.le_of_ble_eq_true rfl, Nat.le_of_ble_eq_true rfl⟩) 3 rfl rfl [3, 4] rfl rfl rfl [.inl 0, .inl 1, .inl 2, .inr 0, .inr 1] rfl rfl rfl rfl (Nat.le_of_ble_eq_true rfl) dX1_keep_35 (fun H locs hS => ?_)
  refine lv_aload_n hx hb dX1_keep_38 rfl (lv_at hl 1 rfl) ?_
  refine s_get (C := RX1) (T := TX1) (N := 11) hx hb hts inX1 hown hK hS 0 rfl rfl 5 (by decide) (hts (.fieldLink RX1 33 "InnTurned$House" "past" "LInnTurned$Table;") (List.mem_of_getElem? (i := 1) rfl)) rfl rfl dX1_keep_39 ?_
  refine lv_iload_n hx hb dX1_keep_42 rfl (lv_at hl 0 rfl) ?_
  refine lv_iconst (v := (1 : Int32)) hx hb dX1_keep_43 (by decide) ?_
  refine lv_aload_n hx hb dX1_keep_44 rfl (lv_at hl 1 rfl) ?_
  refine s_get (C := RX1) (T := TX1) (N := 11) hx hb hts inX1 hown hK hS 0 rfl rfl 9 (by decide) (hts (.fieldLink RX1 46 "InnTurned$House" "wheels" "I") (List.mem_of_getElem? (i := 3) rfl)) rfl rfl dX1_keep_45 ?_
  obtain ⟨q8, hq8, h⟩ := s_bind h
  refine r_callvV (As := [.int q6.1, .int (1 : Int32), .int wheels]) (rest := []) (wc := (wd_X5_put cI cB cZ a_past a_past_cells 192 (24 : Int32) (8 : Int32) q7 q6.2.2)) (w1 := (wd_X5_put cI cB cZ a_past a_past_cells 192 (24 : Int32) (8 : Int32) q8 q6.2.2)) (ws' := (wd_X1_keep cI cB cZ a_this a_wets a_guests a_guests_cells a_sights a_remarks a_marks a_past a_past_cells guests_cells guests_rows q8 q6.2.2 host rooms night wheels turned)) hx hb hml hown hts hK hA hl hS (c_X5_put l D cI cB cZ a_past a_past_cells 192 (24 : Int32) (8 : Int32) q7 q6.2.2 q6.1 (1 : Int32) wheels _ _ hq8) (cwV 3 hts gX1_keep_X5_put rfl rfl rfl (by decide +kernel) ⟨Nat.le_of_ble_eq_true rfl, Nat.le_of_ble_eq_true rfl⟩) 3 rfl rfl [3, 4] rfl rfl rfl [.inl 0, .inl 1, .inl 2, .inr 0, .inr 1] rfl rfl rfl rfl (Nat.le_of_ble_eq_true rfl) dX1_keep_48 (fun H locs hS => ?_)
  refine lv_aload_n hx hb dX1_keep_51 rfl (lv_at hl 1 rfl) ?_
  refine s_get (C := RX1) (T := TX1) (N := 11) hx hb hts inX1 hown hK hS 0 rfl rfl 5 (by decide) (hts (.fieldLink RX1 33 "InnTurned$House" "past" "LInnTurned$Table;") (List.mem_of_getElem? (i := 1) rfl)) rfl rfl dX1_keep_52 ?_
  refine lv_iload_n hx hb dX1_keep_55 rfl (lv_at hl 0 rfl) ?_
  refine lv_iconst (v := (2 : Int32)) hx hb dX1_keep_56 (by decide) ?_
  refine lv_aload_n hx hb dX1_keep_57 rfl (lv_at hl 1 rfl) ?_
  refine s_get (C := RX1) (T := TX1) (N := 11) hx hb hts inX1 hown hK hS 0 rfl rfl 10 (by decide) (hts (.fieldLink RX1 49 "InnTurned$House" "turned" "I") (List.mem_of_getElem? (i := 4) rfl)) rfl rfl dX1_keep_58 ?_
  obtain ⟨q9, hq9, h⟩ := s_bind h
  refine r_callvV (As := [.int q6.1, .int (2 : Int32), .int turned]) (rest := []) (wc := (wd_X5_put cI cB cZ a_past a_past_cells 192 (24 : Int32) (8 : Int32) q8 q6.2.2)) (w1 := (wd_X5_put cI cB cZ a_past a_past_cells 192 (24 : Int32) (8 : Int32) q9 q6.2.2)) (ws' := (wd_X1_keep cI cB cZ a_this a_wets a_guests a_guests_cells a_sights a_remarks a_marks a_past a_past_cells guests_cells guests_rows q9 q6.2.2 host rooms night wheels turned)) hx hb hml hown hts hK hA hl hS (c_X5_put l D cI cB cZ a_past a_past_cells 192 (24 : Int32) (8 : Int32) q8 q6.2.2 q6.1 (2 : Int32) turned _ _ hq9) (cwV 3 hts gX1_keep_X5_put rfl rfl rfl (by decide +kernel) ⟨Nat.le_of_ble_eq_true rfl, Nat.le_of_ble_eq_true rfl⟩) 3 rfl rfl [3, 4] rfl rfl rfl [.inl 0, .inl 1, .inl 2, .inr 0, .inr 1] rfl rfl rfl rfl (Nat.le_of_ble_eq_true rfl) dX1_keep_61 (fun H locs hS => ?_)
  refine lv_iconst (v := (0 : Int32)) hx hb dX1_keep_64 (by decide) ?_
  refine lv_istore_n (lv' := [(2, .int (0 : Int32)), (1, .int q6.1), (0, .ref a_this)]) hx hb dX1_keep_65 rfl hl (by decide) rfl (fun ls hl => ?_)
  exact w_X1_keep_b66 C0 hend  s_fuel q9 q6.2.2 q6.1 (0 : Int32) _ _ _ h hS (lv_sub hl [2, 1, 0] rfl)
def f_X1_keep  (guests_cells : (Nat → Int32)) (guests_rows : Int32) (night : Int32) (wheels : Int32) (turned : Int32) (past_cells : (Nat → Int32)) (past_rows : Int32) : Option ((Nat → Int32) × Int32) := ((f_X5_isFull (8 : Int32) past_rows).bind fun q10 => (if q10 = 0 then f_X1_keep_b17  guests_cells guests_rows night wheels turned past_cells past_rows else ((f_X5_dropFirst 192 (24 : Int32) past_cells past_rows).bind fun q12 => f_X1_keep_b17  guests_cells guests_rows night wheels turned q12.1 q12.2)))
set_option maxHeartbeats 4000000 in
set_option maxRecDepth 100000 in
theorem c_X1_keep (l : Launch) (D : va_G) (cI cB cZ : ClassId) (a_this : Nat) (a_wets : Nat) (a_guests : Nat) (a_guests_cells : Nat) (a_sights : Nat) (a_remarks : Nat) (a_marks : Nat) (a_past : Nat) (a_past_cells : Nat) (guests_cells : (Nat → Int32)) (guests_rows : Int32) (past_cells : (Nat → Int32)) (past_rows : Int32) (host : Int32) (rooms : Int32) (night : Int32) (wheels : Int32) (turned : Int32) (rv : (Nat → Int32) × Int32) (sz : Nat) (hf : f_X1_keep guests_cells guests_rows night wheels turned past_cells past_rows = some rv) : Met l yX1_keep wsX1_keep rm_X1_keep (sPc D vwCl (s_tys cI cB cZ) [.ref a_this] (wd_X1_keep cI cB cZ a_this a_wets a_guests a_guests_cells a_sights a_remarks a_marks a_past a_past_cells guests_cells guests_rows past_cells past_rows host rooms night wheels turned) sz) (sQv D vwCl (wd_X1_keep cI cB cZ a_this a_wets a_guests a_guests_cells a_sights a_remarks a_marks a_past a_past_cells guests_cells guests_rows past_cells past_rows host rooms night wheels turned) (wd_X1_keep cI cB cZ a_this a_wets a_guests a_guests_cells a_sights a_remarks a_marks a_past a_past_cells guests_cells guests_rows rv.1 rv.2 host rooms night wheels turned) sz) 0 0 (va_A (wd_X1_keep cI cB cZ a_this a_wets a_guests a_guests_cells a_sights a_remarks a_marks a_past a_past_cells guests_cells guests_rows past_cells past_rows host rooms night wheels turned) sz) := by
  refine s_enter_v (cc := cX1_keep) (nL := 4) (by decide) rfl (Nat.le_of_ble_eq_true rfl) ?_
  intro p e s m args below meth c A Q C0 hend ls hl hS
  have h := hf
  clear hf
  replace hl : lv_has ls 4 [(0, .ref a_this)] := hl
  unfold f_X1_keep at h
  obtain ⟨hx, hb, hml, hown, hts, hK, hA⟩ := id C0
  have inX1 : ∀ w ∈ u_ws RX1 TX1 11, w ∈ wsX1_keep := inX1_X1_keep
  have inX5 : ∀ w ∈ u_ws RX5 TX5 4, w ∈ wsX1_keep := inX5_X1_keep
  refine lv_aload_n hx hb dX1_keep_0 rfl (lv_at hl 0 rfl) ?_
  refine s_get (C := RX1) (T := TX1) (N := 11) hx hb hts inX1 hown hK hS 0 rfl rfl 5 (by decide) (hts (.fieldLink RX1 33 "InnTurned$House" "past" "LInnTurned$Table;") (List.mem_of_getElem? (i := 1) rfl)) rfl rfl dX1_keep_1 ?_
  obtain ⟨q10, hq10, h⟩ := s_bind h
  refine u_calliV (r := q10) (As := []) (rest := []) (wc := (wd_X5_isFull cI cB cZ a_past a_past_cells (24 : Int32) (8 : Int32) past_rows)) hx hb hml hown hts hK hA hl hS (c_X5_isFull l D cI cB cZ a_past a_past_cells (24 : Int32) (8 : Int32) past_rows _ _ hq10) (cwV 0 hts gX1_keep_X5_isFull rfl rfl rfl (by decide +kernel) ⟨Nat.le_of_ble_eq_true rfl, Nat.le_of_ble_eq_true rfl⟩) 3 rfl rfl [3] rfl rfl rfl rfl (Nat.le_of_ble_eq_true rfl) dX1_keep_4 (fun H locs hS => ?_)
  refine lv_if_eq (tgt := 17) hx hb dX1_keep_7 (by decide) (fun c11 => ?_) (fun c11 => ?_)
  · replace h := s_yes c11 h
    exact w_X1_keep_b17 C0 hend  past_cells past_rows _ _ _ h hS (lv_sub hl [0] rfl)
  replace h := s_no c11 h
  refine lv_aload_n hx hb dX1_keep_10 rfl (lv_at hl 0 rfl) ?_
  refine s_get (C := RX1) (T := TX1) (N := 11) hx hb hts inX1 hown hK hS 0 rfl rfl 5 (by decide) (hts (.fieldLink RX1 33 "InnTurned$House" "past" "LInnTurned$Table;") (List.mem_of_getElem? (i := 1) rfl)) rfl rfl dX1_keep_11 ?_
  obtain ⟨q12, hq12, h⟩ := s_bind h
  refine r_callvV (As := []) (rest := []) (wc := (wd_X5_dropFirst cI cB cZ a_past a_past_cells 192 (24 : Int32) (8 : Int32) past_cells past_rows)) (w1 := (wd_X5_dropFirst cI cB cZ a_past a_past_cells 192 (24 : Int32) (8 : Int32) q12.1 q12.2)) (ws' := (wd_X1_keep cI cB cZ a_this a_wets a_guests a_guests_cells a_sights a_remarks a_marks a_past a_past_cells guests_cells guests_rows q12.1 q12.2 host rooms night wheels turned)) hx hb hml hown hts hK hA hl hS (c_X5_dropFirst l D cI cB cZ a_past a_past_cells 192 (24 : Int32) (8 : Int32) past_cells past_rows _ _ hq12) (cwV 0 hts gX1_keep_X5_dropFirst rfl rfl rfl (by decide +kernel) ⟨Nat.le_of_ble_eq_true rfl, Nat.le_of_ble_eq_true rfl⟩) 3 rfl rfl [3, 4] rfl rfl rfl [.inl 0, .inl 1, .inl 2, .inr 0, .inr 1] rfl rfl rfl rfl (Nat.le_of_ble_eq_true rfl) dX1_keep_14 (fun H locs hS => ?_)
  exact w_X1_keep_b17 C0 hend  q12.1 q12.2 _ _ _ h hS (lv_sub hl [0] rfl)

-- InnTurned$Table.dropLast()V
def wd_X5_dropLast (cI cB cZ : ClassId) (a_this : Nat) (a_cells : Nat)  (width : Int32) (most : Int32) (rows : Int32) : va_W := [(a_this, .inr (3, [.int width, .int most, .ref a_cells, .int rows]))]
abbrev rm_X5_dropLast : Room := { frames := 0, cells := 0, slots := 0, locals := 0 }
set_option maxRecDepth 20000 in
theorem inX5_X5_dropLast : ∀ w ∈ u_ws RX5 TX5 4, w ∈ wsX5_dropLast := by decide +kernel
def f_X5_dropLast   (rows : Int32) : Option (Int32) := (if rows ≤ 0 then some (rows) else some ((rows - (1 : Int32))))
set_option maxHeartbeats 4000000 in
set_option maxRecDepth 100000 in
theorem c_X5_dropLast (l : Launch) (D : va_G) (cI cB cZ : ClassId) (a_this : Nat) (a_cells : Nat) (width : Int32) (most : Int32) (rows : Int32) (rv : Int32) (sz : Nat) (hf : f_X5_dropLast rows = some rv) : Met l yX5_dropLast wsX5_dropLast rm_X5_dropLast (sPc D vwCl (s_tys cI cB cZ) [.ref a_this] (wd_X5_dropLast cI cB cZ a_this a_cells width most rows) sz) (sQv D vwCl (wd_X5_dropLast cI cB cZ a_this a_cells width most rows) (wd_X5_dropLast cI cB cZ a_this a_cells width most rv) sz) 0 0 (va_A (wd_X5_dropLast cI cB cZ a_this a_cells width most rows) sz) := by
  refine s_enter_v (cc := cX5_dropLast) (nL := 1) (by decide) rfl (Nat.le_of_ble_eq_true rfl) ?_
  intro p e s m args below meth c A Q C0 hend ls hl hS
  have h := hf
  clear hf
  replace hl : lv_has ls 1 [(0, .ref a_this)] := hl
  unfold f_X5_dropLast at h
  obtain ⟨hx, hb, hml, hown, hts, hK, hA⟩ := id C0
  have inX5 : ∀ w ∈ u_ws RX5 TX5 4, w ∈ wsX5_dropLast := inX5_X5_dropLast
  refine lv_aload_n hx hb dX5_dropLast_0 rfl (lv_at hl 0 rfl) ?_
  refine s_get (C := RX5) (T := TX5) (N := 4) hx hb hts inX5 hown hK hS 0 rfl rfl 3 (by decide) (hts (.fieldLink RX5 28 "InnTurned$Table" "rows" "I") (List.mem_of_getElem? (i := 1) rfl)) rfl rfl dX5_dropLast_1 ?_
  refine lv_if_le (tgt := 17) hx hb dX5_dropLast_4 (by decide) (fun c1 => ?_) (fun c1 => ?_)
  · replace h := s_yes c1 h
    obtain rfl := Option.some.inj h
    exact hend _ _ _ _ dX5_dropLast_17 hS
  replace h := s_no c1 h
  refine lv_aload_n hx hb dX5_dropLast_7 rfl (lv_at hl 0 rfl) ?_
  refine lv_dup hx hb dX5_dropLast_8 rfl ?_
  refine s_get (C := RX5) (T := TX5) (N := 4) hx hb hts inX5 hown hK hS 0 rfl rfl 3 (by decide) (hts (.fieldLink RX5 28 "InnTurned$Table" "rows" "I") (List.mem_of_getElem? (i := 1) rfl)) rfl rfl dX5_dropLast_9 ?_
  refine lv_iconst (v := (1 : Int32)) hx hb dX5_dropLast_12 (by decide) ?_
  refine lv_isub hx hb dX5_dropLast_13 ?_
  refine s_put (ws' := (wd_X5_dropLast cI cB cZ a_this a_cells width most (rows - (1 : Int32)))) (C := RX5) (T := TX5) (N := 4) hx hb hts inX5 tyX5 tyX5_ok nmX5 hown hK hS 0 rfl rfl 3 (by decide) (hts (.fieldLink RX5 28 "InnTurned$Table" "rows" "I") (List.mem_of_getElem? (i := 1) rfl)) rfl rfl rfl rfl (Nat.le_of_ble_eq_true rfl) rfl dX5_dropLast_14 (fun H locs hS => ?_)
  obtain rfl := Option.some.inj h
  exact hend _ _ _ _ dX5_dropLast_17 hS

-- InnTurned$House.goBack()V
def wd_X1_goBack (cI cB cZ : ClassId) (a_this : Nat) (a_wets : Nat) (a_guests : Nat) (a_guests_cells : Nat) (a_sights : Nat) (a_remarks : Nat) (a_marks : Nat) (a_past : Nat) (a_past_cells : Nat)  (guests_cells : (Nat → Int32)) (guests_rows : Int32) (past_cells : (Nat → Int32)) (past_rows : Int32) (host : Int32) (rooms : Int32) (night : Int32) (wheels : Int32) (turned : Int32) : va_W := [(a_this, .inr (0, [.ref a_wets, .ref a_guests, .ref a_sights, .ref a_remarks, .ref a_marks, .ref a_past, .int host, .int rooms, .int night, .int wheels, .int turned])), (a_guests, .inr (3, [.int 4, .int 7, .ref a_guests_cells, .int guests_rows])), (a_guests_cells, .inl (cI, 28, .inl guests_cells)), (a_past, .inr (3, [.int 24, .int 8, .ref a_past_cells, .int past_rows])), (a_past_cells, .inl (cI, 192, .inl past_cells))]
abbrev rm_X1_goBack : Room := { frames := 1, cells := 0, slots := 0, locals := 23 }
set_option maxRecDepth 20000 in
theorem inX1_X1_goBack : ∀ w ∈ u_ws RX1 TX1 11, w ∈ wsX1_goBack := by decide +kernel
set_option maxRecDepth 20000 in
theorem inX5_X1_goBack : ∀ w ∈ u_ws RX5 TX5 4, w ∈ wsX1_goBack := by decide +kernel
def f_X1_goBack_b69 (k_b56 : (Nat → Int32) → Int32 → Int32 → Int32 → Int32 → Int32 → Int32 → Option ((Nat → Int32) × Int32 × Int32 × Int32 × Int32))  (guests_rows : Int32) (past_cells : (Nat → Int32)) : Nat → (Nat → Int32) → Int32 → Int32 → Int32 → Int32 → Int32 → Int32 → Int32 → Option ((Nat → Int32) × Int32 × Int32 × Int32 × Int32)
  | 0, _, _, _, _, _, _, _, _ => none
  | fu + 1, guests_cells, past_rows, night, wheels, turned, l1, l2, l3 => (if (3 : Int32) < l3 then k_b56 guests_cells past_rows night wheels turned l1 (l2 + (1 : Int32)) else ((f_X1_pastColumn l2 l3).bind fun q2 => ((f_X5_cell 192 (24 : Int32) past_cells past_rows l1 q2).bind fun q3 => ((f_X5_put 28 (4 : Int32) guests_rows guests_cells l2 l3 q3).bind fun q4 => (f_X1_goBack_b69 k_b56 guests_rows past_cells fu) q4 past_rows night wheels turned l1 l2 (l3 + (1 : Int32))))))
set_option maxHeartbeats 4000000 in
set_option maxRecDepth 100000 in
theorem w_X1_goBack_b69 {p : Program} {l : Launch} {e : Env} {s : State} {m : MethodId} {args : Array Value} {below : List Frame} {meth : Method} {c : Code} {A : Nat → Prop} {Q : State → Prop} {D : va_G} {cI cB cZ : ClassId} {a_this a_wets a_guests a_guests_cells a_sights a_remarks a_marks a_past a_past_cells : Nat} {guests_rows : Int32} {past_cells : (Nat → Int32)} {host : Int32} {rooms : Int32} (C0 : Cx p s m args c cX1_goBack 4 RX1 wsX1_goBack D (s_tys cI cB cZ) A) {rv : (Nat → Int32) × Int32 × Int32 × Int32 × Int32} (hend : ∀ (pc : Nat) (H : Heap) (locs : List Loc) (ls : Array Slot), decode cX1_goBack pc = .ok (.return_, 1) → sS D vwCl A s.heap (wd_X1_goBack cI cB cZ a_this a_wets a_guests a_guests_cells a_sights a_remarks a_marks a_past a_past_cells rv.1 guests_rows past_cells rv.2.1 host rooms rv.2.2.1 rv.2.2.2.1 rv.2.2.2.2) H locs → W p l e rm_X1_goBack s m args below meth c H locs 0 0 Q (F0 m pc ls [])) (k_b56 : (Nat → Int32) → Int32 → Int32 → Int32 → Int32 → Int32 → Int32 → Option ((Nat → Int32) × Int32 × Int32 × Int32 × Int32)) (hk_b56 : ∀ (guests_cells : (Nat → Int32)) (past_rows : Int32) (night : Int32) (wheels : Int32) (turned : Int32) (l1 : Int32) (l2 : Int32) (H : Heap) (locs : List Loc) (ls : Array Slot), k_b56 guests_cells past_rows night wheels turned l1 l2 = some rv → sS D vwCl A s.heap (wd_X1_goBack cI cB cZ a_this a_wets a_guests a_guests_cells a_sights a_remarks a_marks a_past a_past_cells guests_cells guests_rows past_cells past_rows host rooms night wheels turned) H locs → lv_has ls 4 [(0, .ref a_this), (1, .int l1), (2, .int l2)] → W p l e rm_X1_goBack s m args below meth c H locs 0 0 Q (F0 m 56 ls [])) : ∀ (fu : Nat) (guests_cells : (Nat → Int32)) (past_rows : Int32) (night : Int32) (wheels : Int32) (turned : Int32) (l1 : Int32) (l2 : Int32) (l3 : Int32) (H : Heap) (locs : List Loc) (ls : Array Slot), f_X1_goBack_b69 k_b56 guests_rows past_cells fu guests_cells past_rows night wheels turned l1 l2 l3 = some rv → sS D vwCl A s.heap (wd_X1_goBack cI cB cZ a_this a_wets a_guests a_guests_cells a_sights a_remarks a_marks a_past a_past_cells guests_cells guests_rows past_cells past_rows host rooms night wheels turned) H locs → lv_has ls 4 [(0, .ref a_this), (1, .int l1), (2, .int l2), (3, .int l3)] → W p l e rm_X1_goBack s m args below meth c H locs 0 0 Q (F0 m 69 ls []) := by
  obtain ⟨hx, hb, hml, hown, hts, hK, hA⟩ := id C0
  have inX1 : ∀ w ∈ u_ws RX1 TX1 11, w ∈ wsX1_goBack := inX1_X1_goBack
  have inX5 : ∀ w ∈ u_ws RX5 TX5 4, w ∈ wsX1_goBack := inX5_X1_goBack
  intro fu
  induction fu with
  | zero => intro guests_cells past_rows night wheels turned l1 l2 l3 H locs ls h; cases h
  | succ fu ih =>
    intro guests_cells past_rows night wheels turned l1 l2 l3 H locs ls h hS hl
    rw [f_X1_goBack_b69] at h
    refine lv_iload_n hx hb dX1_goBack_69 rfl (lv_at hl 3 rfl) ?_
    refine lv_iconst (v := (3 : Int32)) hx hb dX1_goBack_70 (by decide) ?_
    refine lv_icmp_gt (tgt := 102) hx hb dX1_goBack_71 (by decide) (fun c1 => ?_) (fun c1 => ?_)
    · replace h := s_yes c1 h
      refine lv_iinc (v := (l2 + (1 : Int32))) (lv' := [(2, .int (l2 + (1 : Int32))), (0, .ref a_this), (1, .int l1), (3, .int l3)]) hx hb dX1_goBack_102 hl (k := 2) rfl rfl (by decide) rfl (fun ls hl => ?_)
      refine lv_goto (tgt := 56) hx hb dX1_goBack_105 (by decide) ?_
      exact hk_b56 guests_cells past_rows night wheels turned l1 (l2 + (1 : Int32)) _ _ _ h hS (lv_sub hl [1, 2, 0] rfl)
    replace h := s_no c1 h
    refine lv_aload_n hx hb dX1_goBack_74 rfl (lv_at hl 0 rfl) ?_
    refine s_get (C := RX1) (T := TX1) (N := 11) hx hb hts inX1 hown hK hS 0 rfl rfl 1 (by decide) (hts (.fieldLink RX1 20 "InnTurned$House" "guests" "LInnTurned$Table;") (List.mem_of_getElem? (i := 5) rfl)) rfl rfl dX1_goBack_75 ?_
    refine lv_iload_n hx hb dX1_goBack_78 rfl (lv_at hl 2 rfl) ?_
    refine lv_iload_n hx hb dX1_goBack_79 rfl (lv_at hl 3 rfl) ?_
    refine lv_aload_n hx hb dX1_goBack_80 rfl (lv_at hl 0 rfl) ?_
    refine s_get (C := RX1) (T := TX1) (N := 11) hx hb hts inX1 hown hK hS 0 rfl rfl 5 (by decide) (hts (.fieldLink RX1 33 "InnTurned$House" "past" "LInnTurned$Table;") (List.mem_of_getElem? (i := 1) rfl)) rfl rfl dX1_goBack_81 ?_
    refine lv_iload_n hx hb dX1_goBack_84 rfl (lv_at hl 1 rfl) ?_
    refine lv_iload_n hx hb dX1_goBack_85 rfl (lv_at hl 2 rfl) ?_
    refine lv_iload_n hx hb dX1_goBack_86 rfl (lv_at hl 3 rfl) ?_
    obtain ⟨q2, hq2, h⟩ := s_bind h
    refine u_calliS (r := q2) (As := [.int l2, .int l3]) (rest := [.int l1, .ref a_past, .int l3, .int l2, .ref a_guests]) (wc := ([] : va_W)) hx hb hml hown hts hK hA hl hS (c_X1_pastColumn l D cI cB cZ l2 l3 _ _ hq2) (va_cwS 2 hts gX1_goBack_X1_pastColumn rfl rfl rfl (by decide +kernel) ⟨Nat.le_of_ble_eq_true rfl, Nat.le_of_ble_eq_true rfl⟩) [] rfl rfl rfl rfl (Nat.le_of_ble_eq_true rfl) dX1_goBack_87 (fun H locs hS => ?_)
    obtain ⟨q3, hq3, h⟩ := s_bind h
    refine u_calliV (r := q3) (As := [.int l1, .int q2]) (rest := [.int l3, .int l2, .ref a_guests]) (wc := (wd_X5_cell cI cB cZ a_past a_past_cells 192 (24 : Int32) (8 : Int32) past_cells past_rows)) hx hb hml hown hts hK hA hl hS (c_X5_cell l D cI cB cZ a_past a_past_cells 192 (24 : Int32) (8 : Int32) past_cells past_rows l1 q2 _ _ hq3) (cwV 2 hts gX1_goBack_X5_cell rfl rfl rfl (by decide +kernel) ⟨Nat.le_of_ble_eq_true rfl, Nat.le_of_ble_eq_true rfl⟩) 3 rfl rfl [3, 4] rfl rfl rfl rfl (Nat.le_of_ble_eq_true rfl) dX1_goBack_90 (fun H locs hS => ?_)
    obtain ⟨q4, hq4, h⟩ := s_bind h
    refine r_callvV (As := [.int l2, .int l3, .int q3]) (rest := []) (wc := (wd_X5_put cI cB cZ a_guests a_guests_cells 28 (4 : Int32) (7 : Int32) guests_cells guests_rows)) (w1 := (wd_X5_put cI cB cZ a_guests a_guests_cells 28 (4 : Int32) (7 : Int32) q4 guests_rows)) (ws' := (wd_X1_goBack cI cB cZ a_this a_wets a_guests a_guests_cells a_sights a_remarks a_marks a_past a_past_cells q4 guests_rows past_cells past_rows host rooms night wheels turned)) hx hb hml hown hts hK hA hl hS (c_X5_put l D cI cB cZ a_guests a_guests_cells 28 (4 : Int32) (7 : Int32) guests_cells guests_rows l2 l3 q3 _ _ hq4) (cwV 3 hts gX1_goBack_X5_put rfl rfl rfl (by decide +kernel) ⟨Nat.le_of_ble_eq_true rfl, Nat.le_of_ble_eq_true rfl⟩) 1 rfl rfl [1, 2] rfl rfl rfl [.inl 0, .inr 0, .inr 1, .inl 3, .inl 4] rfl rfl rfl rfl (Nat.le_of_ble_eq_true rfl) dX1_goBack_93 (fun H locs hS => ?_)
    refine lv_iinc (v := (l3 + (1 : Int32))) (lv' := [(3, .int (l3 + (1 : Int32))), (0, .ref a_this), (1, .int l1), (2, .int l2)]) hx hb dX1_goBack_96 hl (k := 3) rfl rfl (by decide) rfl (fun ls hl => ?_)
    refine lv_goto (tgt := 69) hx hb dX1_goBack_99 (by decide) ?_
    exact ih q4 past_rows night wheels turned l1 l2 (l3 + (1 : Int32)) _ _ _ h hS (lv_sub hl [1, 2, 3, 0] rfl)
def f_X1_goBack_b56  (guests_rows : Int32) (past_cells : (Nat → Int32)) : Nat → (Nat → Int32) → Int32 → Int32 → Int32 → Int32 → Int32 → Int32 → Option ((Nat → Int32) × Int32 × Int32 × Int32 × Int32)
  | 0, _, _, _, _, _, _, _ => none
  | fu + 1, guests_cells, past_rows, night, wheels, turned, l1, l2 => (if guests_rows ≤ l2 then ((f_X5_dropLast past_rows).bind fun q6 => some (guests_cells, q6, night, wheels, turned)) else f_X1_goBack_b69 (f_X1_goBack_b56 guests_rows past_cells fu) guests_rows past_cells s_fuel guests_cells past_rows night wheels turned l1 l2 (1 : Int32))
set_option maxHeartbeats 4000000 in
set_option maxRecDepth 100000 in
theorem w_X1_goBack_b56 {p : Program} {l : Launch} {e : Env} {s : State} {m : MethodId} {args : Array Value} {below : List Frame} {meth : Method} {c : Code} {A : Nat → Prop} {Q : State → Prop} {D : va_G} {cI cB cZ : ClassId} {a_this a_wets a_guests a_guests_cells a_sights a_remarks a_marks a_past a_past_cells : Nat} {guests_rows : Int32} {past_cells : (Nat → Int32)} {host : Int32} {rooms : Int32} (C0 : Cx p s m args c cX1_goBack 4 RX1 wsX1_goBack D (s_tys cI cB cZ) A) {rv : (Nat → Int32) × Int32 × Int32 × Int32 × Int32} (hend : ∀ (pc : Nat) (H : Heap) (locs : List Loc) (ls : Array Slot), decode cX1_goBack pc = .ok (.return_, 1) → sS D vwCl A s.heap (wd_X1_goBack cI cB cZ a_this a_wets a_guests a_guests_cells a_sights a_remarks a_marks a_past a_past_cells rv.1 guests_rows past_cells rv.2.1 host rooms rv.2.2.1 rv.2.2.2.1 rv.2.2.2.2) H locs → W p l e rm_X1_goBack s m args below meth c H locs 0 0 Q (F0 m pc ls [])) : ∀ (fu : Nat) (guests_cells : (Nat → Int32)) (past_rows : Int32) (night : Int32) (wheels : Int32) (turned : Int32) (l1 : Int32) (l2 : Int32) (H : Heap) (locs : List Loc) (ls : Array Slot), f_X1_goBack_b56 guests_rows past_cells fu guests_cells past_rows night wheels turned l1 l2 = some rv → sS D vwCl A s.heap (wd_X1_goBack cI cB cZ a_this a_wets a_guests a_guests_cells a_sights a_remarks a_marks a_past a_past_cells guests_cells guests_rows past_cells past_rows host rooms night wheels turned) H locs → lv_has ls 4 [(0, .ref a_this), (1, .int l1), (2, .int l2)] → W p l e rm_X1_goBack s m args below meth c H locs 0 0 Q (F0 m 56 ls []) := by
  obtain ⟨hx, hb, hml, hown, hts, hK, hA⟩ := id C0
  have inX1 : ∀ w ∈ u_ws RX1 TX1 11, w ∈ wsX1_goBack := inX1_X1_goBack
  have inX5 : ∀ w ∈ u_ws RX5 TX5 4, w ∈ wsX1_goBack := inX5_X1_goBack
  intro fu
  induction fu with
  | zero => intro guests_cells past_rows night wheels turned l1 l2 H locs ls h; cases h
  | succ fu ih =>
    intro guests_cells past_rows night wheels turned l1 l2 H locs ls h hS hl
    rw [f_X1_goBack_b56] at h
    refine lv_iload_n hx hb dX1_goBack_56 rfl (lv_at hl 2 rfl) ?_
    refine lv_aload_n hx hb dX1_goBack_57 rfl (lv_at hl 0 rfl) ?_
    refine s_get (C := RX1) (T := TX1) (N := 11) hx hb hts inX1 hown hK hS 0 rfl rfl 1 (by decide) (hts (.fieldLink RX1 20 "InnTurned$House" "guests" "LInnTurned$Table;") (List.mem_of_getElem? (i := 5) rfl)) rfl rfl dX1_goBack_58 ?_
    refine s_getN (C := RX5) (T := TX5) (N := 4) hx hb hts inX5 hown hK hS 1 rfl rfl 3 (by decide) 4 rfl rfl rfl dX1_goBack_61 ?_
    refine lv_icmp_ge (tgt := 108) hx hb dX1_goBack_64 (by decide) (fun c5 => ?_) (fun c5 => ?_)
    · replace h := s_yes c5 h
      refine lv_aload_n hx hb dX1_goBack_108 rfl (lv_at hl 0 rfl) ?_
      refine s_get (C := RX1) (T := TX1) (N := 11) hx hb hts inX1 hown hK hS 0 rfl rfl 5 (by decide) (hts (.fieldLink RX1 33 "InnTurned$House" "past" "LInnTurned$Table;") (List.mem_of_getElem? (i := 1) rfl)) rfl rfl dX1_goBack_109 ?_
      obtain ⟨q6, hq6, h⟩ := s_bind h
      refine r_callvV (As := []) (rest := []) (wc := (wd_X5_dropLast cI cB cZ a_past a_past_cells (24 : Int32) (8 : Int32) past_rows)) (w1 := (wd_X5_dropLast cI cB cZ a_past a_past_cells (24 : Int32) (8 : Int32) q6)) (ws' := (wd_X1_goBack cI cB cZ a_this a_wets a_guests a_guests_cells a_sights a_remarks a_marks a_past a_past_cells guests_cells guests_rows past_cells q6 host rooms night wheels turned)) hx hb hml hown hts hK hA hl hS (c_X5_dropLast l D cI cB cZ a_past a_past_cells (24 : Int32) (8 : Int32) past_rows _ _ hq6) (cwV 0 hts gX1_goBack_X5_dropLast rfl rfl rfl (by decide +kernel) ⟨Nat.le_of_ble_eq_true rfl, Nat.le_of_ble_eq_true rfl⟩) 3 rfl rfl [3] rfl rfl rfl [.inl 0, .inl 1, .inl 2, .inr 0, .inl 4] rfl rfl rfl rfl (Nat.le_of_ble_eq_true rfl) dX1_goBack_112 (fun H locs hS => ?_)
      obtain rfl := Option.some.inj h
      exact hend _ _ _ _ dX1_goBack_115 hS
    replace h := s_no c5 h
    refine lv_iconst (v := (1 : Int32)) hx hb dX1_goBack_67 (by decide) ?_
    refine lv_istore_n (lv' := [(3, .int (1 : Int32)), (0, .ref a_this), (1, .int l1), (2, .int l2)]) hx hb dX1_goBack_68 rfl hl (by decide) rfl (fun ls hl => ?_)
    exact w_X1_goBack_b69 C0 hend (f_X1_goBack_b56 guests_rows past_cells fu) ih s_fuel guests_cells past_rows night wheels turned l1 l2 (1 : Int32) _ _ _ h hS (lv_sub hl [1, 2, 3, 0] rfl)
def f_X1_goBack  (guests_rows : Int32) (past_cells : (Nat → Int32)) (guests_cells : (Nat → Int32)) (past_rows : Int32) (night : Int32) (wheels : Int32) (turned : Int32) : Option ((Nat → Int32) × Int32 × Int32 × Int32 × Int32) := (if 0 ≤ (past_rows - (1 : Int32)) then ((f_X5_cell 192 (24 : Int32) past_cells past_rows (past_rows - (1 : Int32)) (0 : Int32)).bind fun q8 => ((f_X5_cell 192 (24 : Int32) past_cells past_rows (past_rows - (1 : Int32)) (1 : Int32)).bind fun q9 => ((f_X5_cell 192 (24 : Int32) past_cells past_rows (past_rows - (1 : Int32)) (2 : Int32)).bind fun q10 => f_X1_goBack_b56  guests_rows past_cells s_fuel guests_cells past_rows q8 q9 q10 (past_rows - (1 : Int32)) (0 : Int32)))) else some (guests_cells, past_rows, night, wheels, turned))
set_option maxHeartbeats 4000000 in
set_option maxRecDepth 100000 in
theorem c_X1_goBack (l : Launch) (D : va_G) (cI cB cZ : ClassId) (a_this : Nat) (a_wets : Nat) (a_guests : Nat) (a_guests_cells : Nat) (a_sights : Nat) (a_remarks : Nat) (a_marks : Nat) (a_past : Nat) (a_past_cells : Nat) (guests_cells : (Nat → Int32)) (guests_rows : Int32) (past_cells : (Nat → Int32)) (past_rows : Int32) (host : Int32) (rooms : Int32) (night : Int32) (wheels : Int32) (turned : Int32) (rv : (Nat → Int32) × Int32 × Int32 × Int32 × Int32) (sz : Nat) (hf : f_X1_goBack guests_rows past_cells guests_cells past_rows night wheels turned = some rv) : Met l yX1_goBack wsX1_goBack rm_X1_goBack (sPc D vwCl (s_tys cI cB cZ) [.ref a_this] (wd_X1_goBack cI cB cZ a_this a_wets a_guests a_guests_cells a_sights a_remarks a_marks a_past a_past_cells guests_cells guests_rows past_cells past_rows host rooms night wheels turned) sz) (sQv D vwCl (wd_X1_goBack cI cB cZ a_this a_wets a_guests a_guests_cells a_sights a_remarks a_marks a_past a_past_cells guests_cells guests_rows past_cells past_rows host rooms night wheels turned) (wd_X1_goBack cI cB cZ a_this a_wets a_guests a_guests_cells a_sights a_remarks a_marks a_past a_past_cells rv.1 guests_rows past_cells rv.2.1 host rooms rv.2.2.1 rv.2.2.2.1 rv.2.2.2.2) sz) 0 0 (va_A (wd_X1_goBack cI cB cZ a_this a_wets a_guests a_guests_cells a_sights a_remarks a_marks a_past a_past_cells guests_cells guests_rows past_cells past_rows host rooms night wheels turned) sz) := by
  refine s_enter_v (cc := cX1_goBack) (nL := 4) (by decide) rfl (Nat.le_of_ble_eq_true rfl) ?_
  intro p e s m args below meth c A Q C0 hend ls hl hS
  have h := hf
  clear hf
  replace hl : lv_has ls 4 [(0, .ref a_this)] := hl
  unfold f_X1_goBack at h
  obtain ⟨hx, hb, hml, hown, hts, hK, hA⟩ := id C0
  have inX1 : ∀ w ∈ u_ws RX1 TX1 11, w ∈ wsX1_goBack := inX1_X1_goBack
  have inX5 : ∀ w ∈ u_ws RX5 TX5 4, w ∈ wsX1_goBack := inX5_X1_goBack
  refine lv_aload_n hx hb dX1_goBack_0 rfl (lv_at hl 0 rfl) ?_
  refine s_get (C := RX1) (T := TX1) (N := 11) hx hb hts inX1 hown hK hS 0 rfl rfl 5 (by decide) (hts (.fieldLink RX1 33 "InnTurned$House" "past" "LInnTurned$Table;") (List.mem_of_getElem? (i := 1) rfl)) rfl rfl dX1_goBack_1 ?_
  refine s_getN (C := RX5) (T := TX5) (N := 4) hx hb hts inX5 hown hK hS 3 rfl rfl 3 (by decide) 4 rfl rfl rfl dX1_goBack_4 ?_
  refine lv_iconst (v := (1 : Int32)) hx hb dX1_goBack_7 (by decide) ?_
  refine lv_isub hx hb dX1_goBack_8 ?_
  refine lv_istore_n (lv' := [(1, .int (past_rows - (1 : Int32))), (0, .ref a_this)]) hx hb dX1_goBack_9 rfl hl (by decide) rfl (fun ls hl => ?_)
  refine lv_iload_n hx hb dX1_goBack_10 rfl (lv_at hl 0 rfl) ?_
  refine lv_if_ge (tgt := 15) hx hb dX1_goBack_11 (by decide) (fun c7 => ?_) (fun c7 => ?_)
  · replace h := s_yes c7 h
    refine lv_aload_n hx hb dX1_goBack_15 rfl (lv_at hl 1 rfl) ?_
    refine lv_aload_n hx hb dX1_goBack_16 rfl (lv_at hl 1 rfl) ?_
    refine s_get (C := RX1) (T := TX1) (N := 11) hx hb hts inX1 hown hK hS 0 rfl rfl 5 (by decide) (hts (.fieldLink RX1 33 "InnTurned$House" "past" "LInnTurned$Table;") (List.mem_of_getElem? (i := 1) rfl)) rfl rfl dX1_goBack_17 ?_
    refine lv_iload_n hx hb dX1_goBack_20 rfl (lv_at hl 0 rfl) ?_
    refine lv_iconst (v := (0 : Int32)) hx hb dX1_goBack_21 (by decide) ?_
    obtain ⟨q8, hq8, h⟩ := s_bind h
    refine u_calliV (r := q8) (As := [.int (past_rows - (1 : Int32)), .int (0 : Int32)]) (rest := [.ref a_this]) (wc := (wd_X5_cell cI cB cZ a_past a_past_cells 192 (24 : Int32) (8 : Int32) past_cells past_rows)) hx hb hml hown hts hK hA hl hS (c_X5_cell l D cI cB cZ a_past a_past_cells 192 (24 : Int32) (8 : Int32) past_cells past_rows (past_rows - (1 : Int32)) (0 : Int32) _ _ hq8) (cwV 2 hts gX1_goBack_X5_cell rfl rfl rfl (by decide +kernel) ⟨Nat.le_of_ble_eq_true rfl, Nat.le_of_ble_eq_true rfl⟩) 3 rfl rfl [3, 4] rfl rfl rfl rfl (Nat.le_of_ble_eq_true rfl) dX1_goBack_22 (fun H locs hS => ?_)
    refine s_put (ws' := (wd_X1_goBack cI cB cZ a_this a_wets a_guests a_guests_cells a_sights a_remarks a_marks a_past a_past_cells guests_cells guests_rows past_cells past_rows host rooms q8 wheels turned)) (C := RX1) (T := TX1) (N := 11) hx hb hts inX1 tyX1 tyX1_ok nmX1 hown hK hS 0 rfl rfl 8 (by decide) (hts (.fieldLink RX1 43 "InnTurned$House" "night" "I") (List.mem_of_getElem? (i := 2) rfl)) rfl rfl rfl rfl (Nat.le_of_ble_eq_true rfl) rfl dX1_goBack_25 (fun H locs hS => ?_)
    refine lv_aload_n hx hb dX1_goBack_28 rfl (lv_at hl 1 rfl) ?_
    refine lv_aload_n hx hb dX1_goBack_29 rfl (lv_at hl 1 rfl) ?_
    refine s_get (C := RX1) (T := TX1) (N := 11) hx hb hts inX1 hown hK hS 0 rfl rfl 5 (by decide) (hts (.fieldLink RX1 33 "InnTurned$House" "past" "LInnTurned$Table;") (List.mem_of_getElem? (i := 1) rfl)) rfl rfl dX1_goBack_30 ?_
    refine lv_iload_n hx hb dX1_goBack_33 rfl (lv_at hl 0 rfl) ?_
    refine lv_iconst (v := (1 : Int32)) hx hb dX1_goBack_34 (by decide) ?_
    obtain ⟨q9, hq9, h⟩ := s_bind h
    refine u_calliV (r := q9) (As := [.int (past_rows - (1 : Int32)), .int (1 : Int32)]) (rest := [.ref a_this]) (wc := (wd_X5_cell cI cB cZ a_past a_past_cells 192 (24 : Int32) (8 : Int32) past_cells past_rows)) hx hb hml hown hts hK hA hl hS (c_X5_cell l D cI cB cZ a_past a_past_cells 192 (24 : Int32) (8 : Int32) past_cells past_rows (past_rows - (1 : Int32)) (1 : Int32) _ _ hq9) (cwV 2 hts gX1_goBack_X5_cell rfl rfl rfl (by decide +kernel) ⟨Nat.le_of_ble_eq_true rfl, Nat.le_of_ble_eq_true rfl⟩) 3 rfl rfl [3, 4] rfl rfl rfl rfl (Nat.le_of_ble_eq_true rfl) dX1_goBack_35 (fun H locs hS => ?_)
    refine s_put (ws' := (wd_X1_goBack cI cB cZ a_this a_wets a_guests a_guests_cells a_sights a_remarks a_marks a_past a_past_cells guests_cells guests_rows past_cells past_rows host rooms q8 q9 turned)) (C := RX1) (T := TX1) (N := 11) hx hb hts inX1 tyX1 tyX1_ok nmX1 hown hK hS 0 rfl rfl 9 (by decide) (hts (.fieldLink RX1 46 "InnTurned$House" "wheels" "I") (List.mem_of_getElem? (i := 3) rfl)) rfl rfl rfl rfl (Nat.le_of_ble_eq_true rfl) rfl dX1_goBack_38 (fun H locs hS => ?_)
    refine lv_aload_n hx hb dX1_goBack_41 rfl (lv_at hl 1 rfl) ?_
    refine lv_aload_n hx hb dX1_goBack_42 rfl (lv_at hl 1 rfl) ?_
    refine s_get (C := RX1) (T := TX1) (N := 11) hx hb hts inX1 hown hK hS 0 rfl rfl 5 (by decide) (hts (.fieldLink RX1 33 "InnTurned$House" "past" "LInnTurned$Table;") (List.mem_of_getElem? (i := 1) rfl)) rfl rfl dX1_goBack_43 ?_
    refine lv_iload_n hx hb dX1_goBack_46 rfl (lv_at hl 0 rfl) ?_
    refine lv_iconst (v := (2 : Int32)) hx hb dX1_goBack_47 (by decide) ?_
    obtain ⟨q10, hq10, h⟩ := s_bind h
    refine u_calliV (r := q10) (As := [.int (past_rows - (1 : Int32)), .int (2 : Int32)]) (rest := [.ref a_this]) (wc := (wd_X5_cell cI cB cZ a_past a_past_cells 192 (24 : Int32) (8 : Int32) past_cells past_rows)) hx hb hml hown hts hK hA hl hS (c_X5_cell l D cI cB cZ a_past a_past_cells 192 (24 : Int32) (8 : Int32) past_cells past_rows (past_rows - (1 : Int32)) (2 : Int32) _ _ hq10) (cwV 2 hts gX1_goBack_X5_cell rfl rfl rfl (by decide +kernel) ⟨Nat.le_of_ble_eq_true rfl, Nat.le_of_ble_eq_true rfl⟩) 3 rfl rfl [3, 4] rfl rfl rfl rfl (Nat.le_of_ble_eq_true rfl) dX1_goBack_48 (fun H locs hS => ?_)
    refine s_put (ws' := (wd_X1_goBack cI cB cZ a_this a_wets a_guests a_guests_cells a_sights a_remarks a_marks a_past a_past_cells guests_cells guests_rows past_cells past_rows host rooms q8 q9 q10)) (C := RX1) (T := TX1) (N := 11) hx hb hts inX1 tyX1 tyX1_ok nmX1 hown hK hS 0 rfl rfl 10 (by decide) (hts (.fieldLink RX1 49 "InnTurned$House" "turned" "I") (List.mem_of_getElem? (i := 4) rfl)) rfl rfl rfl rfl (Nat.le_of_ble_eq_true rfl) rfl dX1_goBack_51 (fun H locs hS => ?_)
    refine lv_iconst (v := (0 : Int32)) hx hb dX1_goBack_54 (by decide) ?_
    refine lv_istore_n (lv' := [(2, .int (0 : Int32)), (1, .int (past_rows - (1 : Int32))), (0, .ref a_this)]) hx hb dX1_goBack_55 rfl hl (by decide) rfl (fun ls hl => ?_)
    exact w_X1_goBack_b56 C0 hend  s_fuel guests_cells past_rows q8 q9 q10 (past_rows - (1 : Int32)) (0 : Int32) _ _ _ h hS (lv_sub hl [2, 1, 0] rfl)
  replace h := s_no c7 h
  obtain rfl := Option.some.inj h
  exact hend _ _ _ _ dX1_goBack_14 hS

-- java/lang/Integer.bitCount(I)I
abbrev rm_J6_bitCount_0f7a4 : Room := { frames := 0, cells := 0, slots := 0, locals := 0 }
def f_J6_bitCount_0f7a4    (p1 : Int32) : Option (Int32) := some (((((((((p1 - (((Int32.toUInt32 p1 >>> (Int32.toUInt32 (1 : Int32) &&& Int32.toUInt32 31)).toInt32) &&& (1431655765 : Int32))) &&& (858993459 : Int32)) + (((Int32.toUInt32 (p1 - (((Int32.toUInt32 p1 >>> (Int32.toUInt32 (1 : Int32) &&& Int32.toUInt32 31)).toInt32) &&& (1431655765 : Int32))) >>> (Int32.toUInt32 (2 : Int32) &&& Int32.toUInt32 31)).toInt32) &&& (858993459 : Int32))) + ((Int32.toUInt32 (((p1 - (((Int32.toUInt32 p1 >>> (Int32.toUInt32 (1 : Int32) &&& Int32.toUInt32 31)).toInt32) &&& (1431655765 : Int32))) &&& (858993459 : Int32)) + (((Int32.toUInt32 (p1 - (((Int32.toUInt32 p1 >>> (Int32.toUInt32 (1 : Int32) &&& Int32.toUInt32 31)).toInt32) &&& (1431655765 : Int32))) >>> (Int32.toUInt32 (2 : Int32) &&& Int32.toUInt32 31)).toInt32) &&& (858993459 : Int32))) >>> (Int32.toUInt32 (4 : Int32) &&& Int32.toUInt32 31)).toInt32)) &&& (252645135 : Int32)) + ((Int32.toUInt32 (((((p1 - (((Int32.toUInt32 p1 >>> (Int32.toUInt32 (1 : Int32) &&& Int32.toUInt32 31)).toInt32) &&& (1431655765 : Int32))) &&& (858993459 : Int32)) + (((Int32.toUInt32 (p1 - (((Int32.toUInt32 p1 >>> (Int32.toUInt32 (1 : Int32) &&& Int32.toUInt32 31)).toInt32) &&& (1431655765 : Int32))) >>> (Int32.toUInt32 (2 : Int32) &&& Int32.toUInt32 31)).toInt32) &&& (858993459 : Int32))) + ((Int32.toUInt32 (((p1 - (((Int32.toUInt32 p1 >>> (Int32.toUInt32 (1 : Int32) &&& Int32.toUInt32 31)).toInt32) &&& (1431655765 : Int32))) &&& (858993459 : Int32)) + (((Int32.toUInt32 (p1 - (((Int32.toUInt32 p1 >>> (Int32.toUInt32 (1 : Int32) &&& Int32.toUInt32 31)).toInt32) &&& (1431655765 : Int32))) >>> (Int32.toUInt32 (2 : Int32) &&& Int32.toUInt32 31)).toInt32) &&& (858993459 : Int32))) >>> (Int32.toUInt32 (4 : Int32) &&& Int32.toUInt32 31)).toInt32)) &&& (252645135 : Int32)) >>> (Int32.toUInt32 (8 : Int32) &&& Int32.toUInt32 31)).toInt32)) + ((Int32.toUInt32 ((((((p1 - (((Int32.toUInt32 p1 >>> (Int32.toUInt32 (1 : Int32) &&& Int32.toUInt32 31)).toInt32) &&& (1431655765 : Int32))) &&& (858993459 : Int32)) + (((Int32.toUInt32 (p1 - (((Int32.toUInt32 p1 >>> (Int32.toUInt32 (1 : Int32) &&& Int32.toUInt32 31)).toInt32) &&& (1431655765 : Int32))) >>> (Int32.toUInt32 (2 : Int32) &&& Int32.toUInt32 31)).toInt32) &&& (858993459 : Int32))) + ((Int32.toUInt32 (((p1 - (((Int32.toUInt32 p1 >>> (Int32.toUInt32 (1 : Int32) &&& Int32.toUInt32 31)).toInt32) &&& (1431655765 : Int32))) &&& (858993459 : Int32)) + (((Int32.toUInt32 (p1 - (((Int32.toUInt32 p1 >>> (Int32.toUInt32 (1 : Int32) &&& Int32.toUInt32 31)).toInt32) &&& (1431655765 : Int32))) >>> (Int32.toUInt32 (2 : Int32) &&& Int32.toUInt32 31)).toInt32) &&& (858993459 : Int32))) >>> (Int32.toUInt32 (4 : Int32) &&& Int32.toUInt32 31)).toInt32)) &&& (252645135 : Int32)) + ((Int32.toUInt32 (((((p1 - (((Int32.toUInt32 p1 >>> (Int32.toUInt32 (1 : Int32) &&& Int32.toUInt32 31)).toInt32) &&& (1431655765 : Int32))) &&& (858993459 : Int32)) + (((Int32.toUInt32 (p1 - (((Int32.toUInt32 p1 >>> (Int32.toUInt32 (1 : Int32) &&& Int32.toUInt32 31)).toInt32) &&& (1431655765 : Int32))) >>> (Int32.toUInt32 (2 : Int32) &&& Int32.toUInt32 31)).toInt32) &&& (858993459 : Int32))) + ((Int32.toUInt32 (((p1 - (((Int32.toUInt32 p1 >>> (Int32.toUInt32 (1 : Int32) &&& Int32.toUInt32 31)).toInt32) &&& (1431655765 : Int32))) &&& (858993459 : Int32)) + (((Int32.toUInt32 (p1 - (((Int32.toUInt32 p1 >>> (Int32.toUInt32 (1 : Int32) &&& Int32.toUInt32 31)).toInt32) &&& (1431655765 : Int32))) >>> (Int32.toUInt32 (2 : Int32) &&& Int32.toUInt32 31)).toInt32) &&& (858993459 : Int32))) >>> (Int32.toUInt32 (4 : Int32) &&& Int32.toUInt32 31)).toInt32)) &&& (252645135 : Int32)) >>> (Int32.toUInt32 (8 : Int32) &&& Int32.toUInt32 31)).toInt32)) >>> (Int32.toUInt32 (16 : Int32) &&& Int32.toUInt32 31)).toInt32)) &&& (63 : Int32)))
set_option maxHeartbeats 4000000 in
set_option maxRecDepth 100000 in
theorem c_J6_bitCount_0f7a4 (l : Launch) (D : va_G) (cI cB cZ : ClassId) (p1 : Int32) (rv : Int32) (sz : Nat) (hf : f_J6_bitCount_0f7a4 p1 = some rv) : Met l yJ6_bitCount_0f7a4 wsJ6_bitCount_0f7a4 rm_J6_bitCount_0f7a4 (sPc D vwCl (s_tys cI cB cZ) [.int p1] ([] : va_W) sz) (sQi D vwCl ([] : va_W) ([] : va_W) sz rv) 0 0 (va_A ([] : va_W) sz) := by
  refine s_enter_n (cc := cJ6_bitCount_0f7a4) (nL := 1) (r := rv) (by decide) rfl (Nat.le_of_ble_eq_true rfl) ?_
  intro p e s m args below meth c A Q C0 hend ls hl hS
  have h := hf
  clear hf
  replace hl : lv_has ls 1 [(0, .int p1)] := hl
  unfold f_J6_bitCount_0f7a4 at h
  obtain ⟨hx, hb, hml, hown, hts, hK, hA⟩ := id C0
  refine lv_iload_n hx hb dJ6_bitCount_0f7a4_0 rfl (lv_at hl 0 rfl) ?_
  refine lv_iload_n hx hb dJ6_bitCount_0f7a4_1 rfl (lv_at hl 0 rfl) ?_
  refine lv_iconst (v := (1 : Int32)) hx hb dJ6_bitCount_0f7a4_2 (by decide) ?_
  refine lv_iushr (v := ((Int32.toUInt32 p1 >>> (Int32.toUInt32 (1 : Int32) &&& Int32.toUInt32 31)).toInt32)) hx hb dJ6_bitCount_0f7a4_3 rfl ?_
  refine lv_ldcw (v := (1431655765 : Int32)) hx hb hown (hts (.constant RJ6 265 (1431655765)) (List.mem_of_getElem? (i := 1) rfl)) dJ6_bitCount_0f7a4_4 ?_
  refine lv_iand hx hb dJ6_bitCount_0f7a4_7 ?_
  refine lv_isub hx hb dJ6_bitCount_0f7a4_8 ?_
  refine lv_istore_n (lv' := [(0, .int (p1 - (((Int32.toUInt32 p1 >>> (Int32.toUInt32 (1 : Int32) &&& Int32.toUInt32 31)).toInt32) &&& (1431655765 : Int32))))]) hx hb dJ6_bitCount_0f7a4_9 rfl hl (by decide) rfl (fun ls hl => ?_)
  refine lv_iload_n hx hb dJ6_bitCount_0f7a4_10 rfl (lv_at hl 0 rfl) ?_
  refine lv_ldcw (v := (858993459 : Int32)) hx hb hown (hts (.constant RJ6 266 (858993459)) (List.mem_of_getElem? (i := 2) rfl)) dJ6_bitCount_0f7a4_11 ?_
  refine lv_iand hx hb dJ6_bitCount_0f7a4_14 ?_
  refine lv_iload_n hx hb dJ6_bitCount_0f7a4_15 rfl (lv_at hl 0 rfl) ?_
  refine lv_iconst (v := (2 : Int32)) hx hb dJ6_bitCount_0f7a4_16 (by decide) ?_
  refine lv_iushr (v := ((Int32.toUInt32 (p1 - (((Int32.toUInt32 p1 >>> (Int32.toUInt32 (1 : Int32) &&& Int32.toUInt32 31)).toInt32) &&& (1431655765 : Int32))) >>> (Int32.toUInt32 (2 : Int32) &&& Int32.toUInt32 31)).toInt32)) hx hb dJ6_bitCount_0f7a4_17 rfl ?_
  refine lv_ldcw (v := (858993459 : Int32)) hx hb hown (hts (.constant RJ6 266 (858993459)) (List.mem_of_getElem? (i := 2) rfl)) dJ6_bitCount_0f7a4_18 ?_
  refine lv_iand hx hb dJ6_bitCount_0f7a4_21 ?_
  refine lv_iadd hx hb dJ6_bitCount_0f7a4_22 ?_
  refine lv_istore_n (lv' := [(0, .int (((p1 - (((Int32.toUInt32 p1 >>> (Int32.toUInt32 (1 : Int32) &&& Int32.toUInt32 31)).toInt32) &&& (1431655765 : Int32))) &&& (858993459 : Int32)) + (((Int32.toUInt32 (p1 - (((Int32.toUInt32 p1 >>> (Int32.toUInt32 (1 : Int32) &&& Int32.toUInt32 31)).toInt32) &&& (1431655765 : Int32))) >>> (Int32.toUInt32 (2 : Int32) &&& Int32.toUInt32 31)).toInt32) &&& (858993459 : Int32))))]) hx hb dJ6_bitCount_0f7a4_23 rfl hl (by decide) rfl (fun ls hl => ?_)
  refine lv_iload_n hx hb dJ6_bitCount_0f7a4_24 rfl (lv_at hl 0 rfl) ?_
  refine lv_iload_n hx hb dJ6_bitCount_0f7a4_25 rfl (lv_at hl 0 rfl) ?_
  refine lv_iconst (v := (4 : Int32)) hx hb dJ6_bitCount_0f7a4_26 (by decide) ?_
  refine lv_iushr (v := ((Int32.toUInt32 (((p1 - (((Int32.toUInt32 p1 >>> (Int32.toUInt32 (1 : Int32) &&& Int32.toUInt32 31)).toInt32) &&& (1431655765 : Int32))) &&& (858993459 : Int32)) + (((Int32.toUInt32 (p1 - (((Int32.toUInt32 p1 >>> (Int32.toUInt32 (1 : Int32) &&& Int32.toUInt32 31)).toInt32) &&& (1431655765 : Int32))) >>> (Int32.toUInt32 (2 : Int32) &&& Int32.toUInt32 31)).toInt32) &&& (858993459 : Int32))) >>> (Int32.toUInt32 (4 : Int32) &&& Int32.toUInt32 31)).toInt32)) hx hb dJ6_bitCount_0f7a4_27 rfl ?_
  refine lv_iadd hx hb dJ6_bitCount_0f7a4_28 ?_
  refine lv_ldcw (v := (252645135 : Int32)) hx hb hown (hts (.constant RJ6 267 (252645135)) (List.mem_of_getElem? (i := 3) rfl)) dJ6_bitCount_0f7a4_29 ?_
  refine lv_iand hx hb dJ6_bitCount_0f7a4_32 ?_
  refine lv_istore_n (lv' := [(0, .int (((((p1 - (((Int32.toUInt32 p1 >>> (Int32.toUInt32 (1 : Int32) &&& Int32.toUInt32 31)).toInt32) &&& (1431655765 : Int32))) &&& (858993459 : Int32)) + (((Int32.toUInt32 (p1 - (((Int32.toUInt32 p1 >>> (Int32.toUInt32 (1 : Int32) &&& Int32.toUInt32 31)).toInt32) &&& (1431655765 : Int32))) >>> (Int32.toUInt32 (2 : Int32) &&& Int32.toUInt32 31)).toInt32) &&& (858993459 : Int32))) + ((Int32.toUInt32 (((p1 - (((Int32.toUInt32 p1 >>> (Int32.toUInt32 (1 : Int32) &&& Int32.toUInt32 31)).toInt32) &&& (1431655765 : Int32))) &&& (858993459 : Int32)) + (((Int32.toUInt32 (p1 - (((Int32.toUInt32 p1 >>> (Int32.toUInt32 (1 : Int32) &&& Int32.toUInt32 31)).toInt32) &&& (1431655765 : Int32))) >>> (Int32.toUInt32 (2 : Int32) &&& Int32.toUInt32 31)).toInt32) &&& (858993459 : Int32))) >>> (Int32.toUInt32 (4 : Int32) &&& Int32.toUInt32 31)).toInt32)) &&& (252645135 : Int32)))]) hx hb dJ6_bitCount_0f7a4_33 rfl hl (by decide) rfl (fun ls hl => ?_)
  refine lv_iload_n hx hb dJ6_bitCount_0f7a4_34 rfl (lv_at hl 0 rfl) ?_
  refine lv_iload_n hx hb dJ6_bitCount_0f7a4_35 rfl (lv_at hl 0 rfl) ?_
  refine lv_bipush (v := (8 : Int32)) hx hb dJ6_bitCount_0f7a4_36 (by decide) ?_
  refine lv_iushr (v := ((Int32.toUInt32 (((((p1 - (((Int32.toUInt32 p1 >>> (Int32.toUInt32 (1 : Int32) &&& Int32.toUInt32 31)).toInt32) &&& (1431655765 : Int32))) &&& (858993459 : Int32)) + (((Int32.toUInt32 (p1 - (((Int32.toUInt32 p1 >>> (Int32.toUInt32 (1 : Int32) &&& Int32.toUInt32 31)).toInt32) &&& (1431655765 : Int32))) >>> (Int32.toUInt32 (2 : Int32) &&& Int32.toUInt32 31)).toInt32) &&& (858993459 : Int32))) + ((Int32.toUInt32 (((p1 - (((Int32.toUInt32 p1 >>> (Int32.toUInt32 (1 : Int32) &&& Int32.toUInt32 31)).toInt32) &&& (1431655765 : Int32))) &&& (858993459 : Int32)) + (((Int32.toUInt32 (p1 - (((Int32.toUInt32 p1 >>> (Int32.toUInt32 (1 : Int32) &&& Int32.toUInt32 31)).toInt32) &&& (1431655765 : Int32))) >>> (Int32.toUInt32 (2 : Int32) &&& Int32.toUInt32 31)).toInt32) &&& (858993459 : Int32))) >>> (Int32.toUInt32 (4 : Int32) &&& Int32.toUInt32 31)).toInt32)) &&& (252645135 : Int32)) >>> (Int32.toUInt32 (8 : Int32) &&& Int32.toUInt32 31)).toInt32)) hx hb dJ6_bitCount_0f7a4_38 rfl ?_
  refine lv_iadd hx hb dJ6_bitCount_0f7a4_39 ?_
  refine lv_istore_n (lv' := [(0, .int ((((((p1 - (((Int32.toUInt32 p1 >>> (Int32.toUInt32 (1 : Int32) &&& Int32.toUInt32 31)).toInt32) &&& (1431655765 : Int32))) &&& (858993459 : Int32)) + (((Int32.toUInt32 (p1 - (((Int32.toUInt32 p1 >>> (Int32.toUInt32 (1 : Int32) &&& Int32.toUInt32 31)).toInt32) &&& (1431655765 : Int32))) >>> (Int32.toUInt32 (2 : Int32) &&& Int32.toUInt32 31)).toInt32) &&& (858993459 : Int32))) + ((Int32.toUInt32 (((p1 - (((Int32.toUInt32 p1 >>> (Int32.toUInt32 (1 : Int32) &&& Int32.toUInt32 31)).toInt32) &&& (1431655765 : Int32))) &&& (858993459 : Int32)) + (((Int32.toUInt32 (p1 - (((Int32.toUInt32 p1 >>> (Int32.toUInt32 (1 : Int32) &&& Int32.toUInt32 31)).toInt32) &&& (1431655765 : Int32))) >>> (Int32.toUInt32 (2 : Int32) &&& Int32.toUInt32 31)).toInt32) &&& (858993459 : Int32))) >>> (Int32.toUInt32 (4 : Int32) &&& Int32.toUInt32 31)).toInt32)) &&& (252645135 : Int32)) + ((Int32.toUInt32 (((((p1 - (((Int32.toUInt32 p1 >>> (Int32.toUInt32 (1 : Int32) &&& Int32.toUInt32 31)).toInt32) &&& (1431655765 : Int32))) &&& (858993459 : Int32)) + (((Int32.toUInt32 (p1 - (((Int32.toUInt32 p1 >>> (Int32.toUInt32 (1 : Int32) &&& Int32.toUInt32 31)).toInt32) &&& (1431655765 : Int32))) >>> (Int32.toUInt32 (2 : Int32) &&& Int32.toUInt32 31)).toInt32) &&& (858993459 : Int32))) + ((Int32.toUInt32 (((p1 - (((Int32.toUInt32 p1 >>> (Int32.toUInt32 (1 : Int32) &&& Int32.toUInt32 31)).toInt32) &&& (1431655765 : Int32))) &&& (858993459 : Int32)) + (((Int32.toUInt32 (p1 - (((Int32.toUInt32 p1 >>> (Int32.toUInt32 (1 : Int32) &&& Int32.toUInt32 31)).toInt32) &&& (1431655765 : Int32))) >>> (Int32.toUInt32 (2 : Int32) &&& Int32.toUInt32 31)).toInt32) &&& (858993459 : Int32))) >>> (Int32.toUInt32 (4 : Int32) &&& Int32.toUInt32 31)).toInt32)) &&& (252645135 : Int32)) >>> (Int32.toUInt32 (8 : Int32) &&& Int32.toUInt32 31)).toInt32)))]) hx hb dJ6_bitCount_0f7a4_40 rfl hl (by decide) rfl (fun ls hl => ?_)
  refine lv_iload_n hx hb dJ6_bitCount_0f7a4_41 rfl (lv_at hl 0 rfl) ?_
  refine lv_iload_n hx hb dJ6_bitCount_0f7a4_42 rfl (lv_at hl 0 rfl) ?_
  refine lv_bipush (v := (16 : Int32)) hx hb dJ6_bitCount_0f7a4_43 (by decide) ?_
  refine lv_iushr (v := ((Int32.toUInt32 ((((((p1 - (((Int32.toUInt32 p1 >>> (Int32.toUInt32 (1 : Int32) &&& Int32.toUInt32 31)).toInt32) &&& (1431655765 : Int32))) &&& (858993459 : Int32)) + (((Int32.toUInt32 (p1 - (((Int32.toUInt32 p1 >>> (Int32.toUInt32 (1 : Int32) &&& Int32.toUInt32 31)).toInt32) &&& (1431655765 : Int32))) >>> (Int32.toUInt32 (2 : Int32) &&& Int32.toUInt32 31)).toInt32) &&& (858993459 : Int32))) + ((Int32.toUInt32 (((p1 - (((Int32.toUInt32 p1 >>> (Int32.toUInt32 (1 : Int32) &&& Int32.toUInt32 31)).toInt32) &&& (1431655765 : Int32))) &&& (858993459 : Int32)) + (((Int32.toUInt32 (p1 - (((Int32.toUInt32 p1 >>> (Int32.toUInt32 (1 : Int32) &&& Int32.toUInt32 31)).toInt32) &&& (1431655765 : Int32))) >>> (Int32.toUInt32 (2 : Int32) &&& Int32.toUInt32 31)).toInt32) &&& (858993459 : Int32))) >>> (Int32.toUInt32 (4 : Int32) &&& Int32.toUInt32 31)).toInt32)) &&& (252645135 : Int32)) + ((Int32.toUInt32 (((((p1 - (((Int32.toUInt32 p1 >>> (Int32.toUInt32 (1 : Int32) &&& Int32.toUInt32 31)).toInt32) &&& (1431655765 : Int32))) &&& (858993459 : Int32)) + (((Int32.toUInt32 (p1 - (((Int32.toUInt32 p1 >>> (Int32.toUInt32 (1 : Int32) &&& Int32.toUInt32 31)).toInt32) &&& (1431655765 : Int32))) >>> (Int32.toUInt32 (2 : Int32) &&& Int32.toUInt32 31)).toInt32) &&& (858993459 : Int32))) + ((Int32.toUInt32 (((p1 - (((Int32.toUInt32 p1 >>> (Int32.toUInt32 (1 : Int32) &&& Int32.toUInt32 31)).toInt32) &&& (1431655765 : Int32))) &&& (858993459 : Int32)) + (((Int32.toUInt32 (p1 - (((Int32.toUInt32 p1 >>> (Int32.toUInt32 (1 : Int32) &&& Int32.toUInt32 31)).toInt32) &&& (1431655765 : Int32))) >>> (Int32.toUInt32 (2 : Int32) &&& Int32.toUInt32 31)).toInt32) &&& (858993459 : Int32))) >>> (Int32.toUInt32 (4 : Int32) &&& Int32.toUInt32 31)).toInt32)) &&& (252645135 : Int32)) >>> (Int32.toUInt32 (8 : Int32) &&& Int32.toUInt32 31)).toInt32)) >>> (Int32.toUInt32 (16 : Int32) &&& Int32.toUInt32 31)).toInt32)) hx hb dJ6_bitCount_0f7a4_45 rfl ?_
  refine lv_iadd hx hb dJ6_bitCount_0f7a4_46 ?_
  refine lv_istore_n (lv' := [(0, .int (((((((p1 - (((Int32.toUInt32 p1 >>> (Int32.toUInt32 (1 : Int32) &&& Int32.toUInt32 31)).toInt32) &&& (1431655765 : Int32))) &&& (858993459 : Int32)) + (((Int32.toUInt32 (p1 - (((Int32.toUInt32 p1 >>> (Int32.toUInt32 (1 : Int32) &&& Int32.toUInt32 31)).toInt32) &&& (1431655765 : Int32))) >>> (Int32.toUInt32 (2 : Int32) &&& Int32.toUInt32 31)).toInt32) &&& (858993459 : Int32))) + ((Int32.toUInt32 (((p1 - (((Int32.toUInt32 p1 >>> (Int32.toUInt32 (1 : Int32) &&& Int32.toUInt32 31)).toInt32) &&& (1431655765 : Int32))) &&& (858993459 : Int32)) + (((Int32.toUInt32 (p1 - (((Int32.toUInt32 p1 >>> (Int32.toUInt32 (1 : Int32) &&& Int32.toUInt32 31)).toInt32) &&& (1431655765 : Int32))) >>> (Int32.toUInt32 (2 : Int32) &&& Int32.toUInt32 31)).toInt32) &&& (858993459 : Int32))) >>> (Int32.toUInt32 (4 : Int32) &&& Int32.toUInt32 31)).toInt32)) &&& (252645135 : Int32)) + ((Int32.toUInt32 (((((p1 - (((Int32.toUInt32 p1 >>> (Int32.toUInt32 (1 : Int32) &&& Int32.toUInt32 31)).toInt32) &&& (1431655765 : Int32))) &&& (858993459 : Int32)) + (((Int32.toUInt32 (p1 - (((Int32.toUInt32 p1 >>> (Int32.toUInt32 (1 : Int32) &&& Int32.toUInt32 31)).toInt32) &&& (1431655765 : Int32))) >>> (Int32.toUInt32 (2 : Int32) &&& Int32.toUInt32 31)).toInt32) &&& (858993459 : Int32))) + ((Int32.toUInt32 (((p1 - (((Int32.toUInt32 p1 >>> (Int32.toUInt32 (1 : Int32) &&& Int32.toUInt32 31)).toInt32) &&& (1431655765 : Int32))) &&& (858993459 : Int32)) + (((Int32.toUInt32 (p1 - (((Int32.toUInt32 p1 >>> (Int32.toUInt32 (1 : Int32) &&& Int32.toUInt32 31)).toInt32) &&& (1431655765 : Int32))) >>> (Int32.toUInt32 (2 : Int32) &&& Int32.toUInt32 31)).toInt32) &&& (858993459 : Int32))) >>> (Int32.toUInt32 (4 : Int32) &&& Int32.toUInt32 31)).toInt32)) &&& (252645135 : Int32)) >>> (Int32.toUInt32 (8 : Int32) &&& Int32.toUInt32 31)).toInt32)) + ((Int32.toUInt32 ((((((p1 - (((Int32.toUInt32 p1 >>> (Int32.toUInt32 (1 : Int32) &&& Int32.toUInt32 31)).toInt32) &&& (1431655765 : Int32))) &&& (858993459 : Int32)) + (((Int32.toUInt32 (p1 - (((Int32.toUInt32 p1 >>> (Int32.toUInt32 (1 : Int32) &&& Int32.toUInt32 31)).toInt32) &&& (1431655765 : Int32))) >>> (Int32.toUInt32 (2 : Int32) &&& Int32.toUInt32 31)).toInt32) &&& (858993459 : Int32))) + ((Int32.toUInt32 (((p1 - (((Int32.toUInt32 p1 >>> (Int32.toUInt32 (1 : Int32) &&& Int32.toUInt32 31)).toInt32) &&& (1431655765 : Int32))) &&& (858993459 : Int32)) + (((Int32.toUInt32 (p1 - (((Int32.toUInt32 p1 >>> (Int32.toUInt32 (1 : Int32) &&& Int32.toUInt32 31)).toInt32) &&& (1431655765 : Int32))) >>> (Int32.toUInt32 (2 : Int32) &&& Int32.toUInt32 31)).toInt32) &&& (858993459 : Int32))) >>> (Int32.toUInt32 (4 : Int32) &&& Int32.toUInt32 31)).toInt32)) &&& (252645135 : Int32)) + ((Int32.toUInt32 (((((p1 - (((Int32.toUInt32 p1 >>> (Int32.toUInt32 (1 : Int32) &&& Int32.toUInt32 31)).toInt32) &&& (1431655765 : Int32))) &&& (858993459 : Int32)) + (((Int32.toUInt32 (p1 - (((Int32.toUInt32 p1 >>> (Int32.toUInt32 (1 : Int32) &&& Int32.toUInt32 31)).toInt32) &&& (1431655765 : Int32))) >>> (Int32.toUInt32 (2 : Int32) &&& Int32.toUInt32 31)).toInt32) &&& (858993459 : Int32))) + ((Int32.toUInt32 (((p1 - (((Int32.toUInt32 p1 >>> (Int32.toUInt32 (1 : Int32) &&& Int32.toUInt32 31)).toInt32) &&& (1431655765 : Int32))) &&& (858993459 : Int32)) + (((Int32.toUInt32 (p1 - (((Int32.toUInt32 p1 >>> (Int32.toUInt32 (1 : Int32) &&& Int32.toUInt32 31)).toInt32) &&& (1431655765 : Int32))) >>> (Int32.toUInt32 (2 : Int32) &&& Int32.toUInt32 31)).toInt32) &&& (858993459 : Int32))) >>> (Int32.toUInt32 (4 : Int32) &&& Int32.toUInt32 31)).toInt32)) &&& (252645135 : Int32)) >>> (Int32.toUInt32 (8 : Int32) &&& Int32.toUInt32 31)).toInt32)) >>> (Int32.toUInt32 (16 : Int32) &&& Int32.toUInt32 31)).toInt32)))]) hx hb dJ6_bitCount_0f7a4_47 rfl hl (by decide) rfl (fun ls hl => ?_)
  refine lv_iload_n hx hb dJ6_bitCount_0f7a4_48 rfl (lv_at hl 0 rfl) ?_
  refine lv_bipush (v := (63 : Int32)) hx hb dJ6_bitCount_0f7a4_49 (by decide) ?_
  refine lv_iand hx hb dJ6_bitCount_0f7a4_51 ?_
  obtain rfl := Option.some.inj h
  exact hend _ _ _ _ dJ6_bitCount_0f7a4_52 hS

-- InnTurned$Lineup.letsBehind(LInnTurned$House;I)I
def wd_X3_letsBehind (cI cB cZ : ClassId) (a_this : Nat) (a_p1 : Nat) (a_p1_wets : Nat) (a_p1_guests : Nat) (a_p1_sights : Nat) (a_p1_remarks : Nat) (a_p1_marks : Nat) (a_p1_past : Nat)  (p1_wets : (Nat → Int32)) (p1_host : Int32) (p1_rooms : Int32) (p1_night : Int32) (p1_wheels : Int32) (p1_turned : Int32) : va_W := [(a_p1, .inr (0, [.ref a_p1_wets, .ref a_p1_guests, .ref a_p1_sights, .ref a_p1_remarks, .ref a_p1_marks, .ref a_p1_past, .int p1_host, .int p1_rooms, .int p1_night, .int p1_wheels, .int p1_turned])), (a_p1_wets, .inl (cI, 6, .inl p1_wets))]
abbrev rm_X3_letsBehind : Room := { frames := 2, cells := 0, slots := 0, locals := 47 }
set_option maxRecDepth 20000 in
theorem inX1_X3_letsBehind : ∀ w ∈ u_ws RX1 TX1 11, w ∈ wsX3_letsBehind := by decide +kernel
def f_X3_letsBehind  (p1_wets : (Nat → Int32)) (p1_host : Int32) (p1_night : Int32) (p1_wheels : Int32)  (p2 : Int32) : Option (Int32) := ((f_J6_bitCount_0f7a4 p2).bind fun q1 => ((f_X1_wetNow p1_wets p1_night).bind fun q2 => ((f_X1_letsPass p1_host q2 (if (p1_wheels + q1) < (99 : Int32) then (p1_wheels + q1) else (99 : Int32))).bind fun q3 => some (q3))))
set_option maxHeartbeats 4000000 in
set_option maxRecDepth 100000 in
theorem c_X3_letsBehind (l : Launch) (D : va_G) (cI cB cZ : ClassId) (a_this : Nat) (a_p1 : Nat) (a_p1_wets : Nat) (a_p1_guests : Nat) (a_p1_sights : Nat) (a_p1_remarks : Nat) (a_p1_marks : Nat) (a_p1_past : Nat) (p1_wets : (Nat → Int32)) (p1_host : Int32) (p1_rooms : Int32) (p1_night : Int32) (p1_wheels : Int32) (p1_turned : Int32) (p2 : Int32) (rv : Int32) (sz : Nat) (hf : f_X3_letsBehind p1_wets p1_host p1_night p1_wheels p2 = some rv) : Met l yX3_letsBehind wsX3_letsBehind rm_X3_letsBehind (sPc D vwCl (s_tys cI cB cZ) [.ref a_this, .ref a_p1, .int p2] (wd_X3_letsBehind cI cB cZ a_this a_p1 a_p1_wets a_p1_guests a_p1_sights a_p1_remarks a_p1_marks a_p1_past p1_wets p1_host p1_rooms p1_night p1_wheels p1_turned) sz) (sQi D vwCl (wd_X3_letsBehind cI cB cZ a_this a_p1 a_p1_wets a_p1_guests a_p1_sights a_p1_remarks a_p1_marks a_p1_past p1_wets p1_host p1_rooms p1_night p1_wheels p1_turned) (wd_X3_letsBehind cI cB cZ a_this a_p1 a_p1_wets a_p1_guests a_p1_sights a_p1_remarks a_p1_marks a_p1_past p1_wets p1_host p1_rooms p1_night p1_wheels p1_turned) sz rv) 0 0 (va_A (wd_X3_letsBehind cI cB cZ a_this a_p1 a_p1_wets a_p1_guests a_p1_sights a_p1_remarks a_p1_marks a_p1_past p1_wets p1_host p1_rooms p1_night p1_wheels p1_turned) sz) := by
  refine s_enter_n (cc := cX3_letsBehind) (nL := 4) (r := rv) (by decide) rfl (Nat.le_of_ble_eq_true rfl) ?_
  intro p e s m args below meth c A Q C0 hend ls hl hS
  have h := hf
  clear hf
  replace hl : lv_has ls 4 [(0, .ref a_this), (1, .ref a_p1), (2, .int p2)] := hl
  unfold f_X3_letsBehind at h
  obtain ⟨hx, hb, hml, hown, hts, hK, hA⟩ := id C0
  have inX1 : ∀ w ∈ u_ws RX1 TX1 11, w ∈ wsX3_letsBehind := inX1_X3_letsBehind
  refine lv_bipush (v := (99 : Int32)) hx hb dX3_letsBehind_0 (by decide) ?_
  refine lv_aload_n hx hb dX3_letsBehind_2 rfl (lv_at hl 1 rfl) ?_
  refine s_getN (C := RX1) (T := TX1) (N := 11) hx hb hts inX1 hown hK hS 0 rfl rfl 9 (by decide) 21 rfl rfl rfl dX3_letsBehind_3 ?_
  refine lv_iload_n hx hb dX3_letsBehind_6 rfl (lv_at hl 2 rfl) ?_
  obtain ⟨q1, hq1, h⟩ := s_bind h
  refine u_calliS (r := q1) (As := [.int p2]) (rest := [.int p1_wheels, .int (99 : Int32)]) (wc := ([] : va_W)) hx hb hml hown hts hK hA hl hS (c_J6_bitCount_0f7a4 l D cI cB cZ p2 _ _ hq1) (va_cwS 1 hts gX3_letsBehind_J6_bitCount_0f7a4 rfl rfl rfl (by decide +kernel) ⟨Nat.le_of_ble_eq_true rfl, Nat.le_of_ble_eq_true rfl⟩) [] rfl rfl rfl rfl (Nat.le_of_ble_eq_true rfl) dX3_letsBehind_7 (fun H locs hS => ?_)
  refine lv_iadd hx hb dX3_letsBehind_10 ?_
  refine s_min hx hb hml hl.1 hown (hts (.methodLink RX3 55 Lib.Math.min.name) (List.mem_of_getElem? (i := 1) rfl)) (hts (.static Lib.Math.min.name) (List.mem_of_getElem? (i := 2) rfl)) (hts (.initialized "java/lang/Math") (List.mem_of_getElem? (i := 3) rfl)) (hts (.code Lib.Math.min.name Lib.Math.min.code 2 (some .int)) (List.mem_of_getElem? (i := 4) rfl)) (Nat.le_of_ble_eq_true rfl) (Nat.le_of_ble_eq_true rfl) dX3_letsBehind_11 ?_
  refine lv_istore_n (lv' := [(3, .int (if (p1_wheels + q1) < (99 : Int32) then (p1_wheels + q1) else (99 : Int32))), (0, .ref a_this), (1, .ref a_p1), (2, .int p2)]) hx hb dX3_letsBehind_14 rfl hl (by decide) rfl (fun ls hl => ?_)
  refine lv_aload_n hx hb dX3_letsBehind_15 rfl (lv_at hl 2 rfl) ?_
  refine lv_aload_n hx hb dX3_letsBehind_16 rfl (lv_at hl 2 rfl) ?_
  obtain ⟨q2, hq2, h⟩ := s_bind h
  refine u_calliV (r := q2) (As := []) (rest := [.ref a_p1]) (wc := (wd_X1_wetNow cI cB cZ a_p1 a_p1_wets a_p1_guests a_p1_sights a_p1_remarks a_p1_marks a_p1_past p1_wets p1_host p1_rooms p1_night p1_wheels p1_turned)) hx hb hml hown hts hK hA hl hS (c_X1_wetNow l D cI cB cZ a_p1 a_p1_wets a_p1_guests a_p1_sights a_p1_remarks a_p1_marks a_p1_past p1_wets p1_host p1_rooms p1_night p1_wheels p1_turned _ _ hq2) (cwV 0 hts gX3_letsBehind_X1_wetNow rfl rfl rfl (by decide +kernel) ⟨Nat.le_of_ble_eq_true rfl, Nat.le_of_ble_eq_true rfl⟩) 0 rfl rfl [0, 1] rfl rfl rfl rfl (Nat.le_of_ble_eq_true rfl) dX3_letsBehind_17 (fun H locs hS => ?_)
  refine lv_iload_n hx hb dX3_letsBehind_20 rfl (lv_at hl 0 rfl) ?_
  obtain ⟨q3, hq3, h⟩ := s_bind h
  refine u_calliV (r := q3) (As := [.int q2, .int (if (p1_wheels + q1) < (99 : Int32) then (p1_wheels + q1) else (99 : Int32))]) (rest := []) (wc := (wd_X1_letsPass cI cB cZ a_p1 a_p1_wets a_p1_guests a_p1_sights a_p1_remarks a_p1_marks a_p1_past p1_host p1_rooms p1_night p1_wheels p1_turned)) hx hb hml hown hts hK hA hl hS (c_X1_letsPass l D cI cB cZ a_p1 a_p1_wets a_p1_guests a_p1_sights a_p1_remarks a_p1_marks a_p1_past p1_host p1_rooms p1_night p1_wheels p1_turned q2 (if (p1_wheels + q1) < (99 : Int32) then (p1_wheels + q1) else (99 : Int32)) _ _ hq3) (cwV 2 hts gX3_letsBehind_X1_letsPass rfl rfl rfl (by decide +kernel) ⟨Nat.le_of_ble_eq_true rfl, Nat.le_of_ble_eq_true rfl⟩) 0 rfl rfl [0] rfl rfl rfl rfl (Nat.le_of_ble_eq_true rfl) dX3_letsBehind_21 (fun H locs hS => ?_)
  obtain rfl := Option.some.inj h
  exact hend _ _ _ _ dX3_letsBehind_24 hS

-- InnTurned$Lineup.waits(II)Z
def wd_X3_waits (cI cB cZ : ClassId) (a_this : Nat) (a_best : Nat) (a_likely : Nat) (a_places : Nat)  (all : Int32) (length : Int32) (let_ : Int32) : va_W := [(a_this, .inr (1, [.ref a_best, .ref a_likely, .ref a_places, .int all, .int length, .int let_]))]
abbrev rm_X3_waits : Room := { frames := 0, cells := 0, slots := 0, locals := 0 }
set_option maxRecDepth 20000 in
theorem inX3_X3_waits : ∀ w ∈ u_ws RX3 TX3 6, w ∈ wsX3_waits := by decide +kernel
def f_X3_waits  (all : Int32)  (p1 : Int32) (p2 : Int32) : Option (Int32) := (if ((all &&& (p2 ^^^ (-1 : Int32))) &&& ((1 : Int32) <<< (p1 &&& 31))) = 0 then some ((0 : Int32)) else some ((1 : Int32)))
set_option maxHeartbeats 4000000 in
set_option maxRecDepth 100000 in
theorem c_X3_waits (l : Launch) (D : va_G) (cI cB cZ : ClassId) (a_this : Nat) (a_best : Nat) (a_likely : Nat) (a_places : Nat) (all : Int32) (length : Int32) (let_ : Int32) (p1 : Int32) (p2 : Int32) (rv : Int32) (sz : Nat) (hf : f_X3_waits all p1 p2 = some rv) : Met l yX3_waits wsX3_waits rm_X3_waits (sPc D vwCl (s_tys cI cB cZ) [.ref a_this, .int p1, .int p2] (wd_X3_waits cI cB cZ a_this a_best a_likely a_places all length let_) sz) (sQi D vwCl (wd_X3_waits cI cB cZ a_this a_best a_likely a_places all length let_) (wd_X3_waits cI cB cZ a_this a_best a_likely a_places all length let_) sz rv) 0 0 (va_A (wd_X3_waits cI cB cZ a_this a_best a_likely a_places all length let_) sz) := by
  refine s_enter_z (cc := cX3_waits) (nL := 3) (r := rv) (by decide) rfl (Nat.le_of_ble_eq_true rfl) ?_
  intro p e s m args below meth c A Q C0 hend ls hl hS
  have h := hf
  clear hf
  replace hl : lv_has ls 3 [(0, .ref a_this), (1, .int p1), (2, .int p2)] := hl
  unfold f_X3_waits at h
  obtain ⟨hx, hb, hml, hown, hts, hK, hA⟩ := id C0
  have inX3 : ∀ w ∈ u_ws RX3 TX3 6, w ∈ wsX3_waits := inX3_X3_waits
  refine lv_aload_n hx hb dX3_waits_0 rfl (lv_at hl 0 rfl) ?_
  refine s_get (C := RX3) (T := TX3) (N := 6) hx hb hts inX3 hown hK hS 0 rfl rfl 3 (by decide) (hts (.fieldLink RX3 21 "InnTurned$Lineup" "all" "I") (List.mem_of_getElem? (i := 1) rfl)) rfl rfl dX3_waits_1 ?_
  refine lv_iload_n hx hb dX3_waits_4 rfl (lv_at hl 2 rfl) ?_
  refine lv_iconst (v := (-1 : Int32)) hx hb dX3_waits_5 (by decide) ?_
  refine lv_ixor hx hb dX3_waits_6 ?_
  refine lv_iand hx hb dX3_waits_7 ?_
  refine lv_iconst (v := (1 : Int32)) hx hb dX3_waits_8 (by decide) ?_
  refine lv_iload_n hx hb dX3_waits_9 rfl (lv_at hl 1 rfl) ?_
  refine lv_ishl hx hb dX3_waits_10 ?_
  refine lv_iand hx hb dX3_waits_11 ?_
  refine lv_if_eq (tgt := 19) hx hb dX3_waits_12 (by decide) (fun c1 => ?_) (fun c1 => ?_)
  · replace h := s_yes c1 h
    refine lv_iconst (v := (0 : Int32)) hx hb dX3_waits_19 (by decide) ?_
    obtain rfl := Option.some.inj h
    exact hend _ _ _ _ dX3_waits_20 (Or.inl rfl) hS
  replace h := s_no c1 h
  refine lv_iconst (v := (1 : Int32)) hx hb dX3_waits_15 (by decide) ?_
  refine lv_goto (tgt := 20) hx hb dX3_waits_16 (by decide) ?_
  obtain rfl := Option.some.inj h
  exact hend _ _ _ _ dX3_waits_20 (Or.inr rfl) hS

-- InnTurned$Lineup.gain(III)I
def wd_X3_gain (cI cB cZ : ClassId) (a_this : Nat) (a_best : Nat) (a_likely : Nat) (a_places : Nat)  (best : (Nat → Int32)) (likely : (Nat → Int32)) (all : Int32) (length : Int32) (let_ : Int32) : va_W := [(a_this, .inr (1, [.ref a_best, .ref a_likely, .ref a_places, .int all, .int length, .int let_])), (a_best, .inl (cI, 128, .inl best)), (a_likely, .inl (cI, 7, .inl likely))]
abbrev rm_X3_gain : Room := { frames := 0, cells := 0, slots := 0, locals := 0 }
set_option maxRecDepth 20000 in
theorem inX3_X3_gain : ∀ w ∈ u_ws RX3 TX3 6, w ∈ wsX3_gain := by decide +kernel
def f_X3_gain_b31  (best : (Nat → Int32)) (likely : (Nat → Int32))  (l1 : Int32) (l3 : Int32) (t0 : Int32) : Option (Int32) := (if l1 < 0 then some (t0) else (if (7 : Int32) ≤ l1 then some (t0) else (if ¬ (l1 < 0 ∨ 7 ≤ (Int32.toNatClampNeg l1)) then (if l3 < (likely (Int32.toNatClampNeg l1)) then some (t0) else some ((t0 + (1 : Int32)))) else none)))
set_option maxHeartbeats 4000000 in
set_option maxRecDepth 100000 in
theorem w_X3_gain_b31 {p : Program} {l : Launch} {e : Env} {s : State} {m : MethodId} {args : Array Value} {below : List Frame} {meth : Method} {c : Code} {A : Nat → Prop} {Q : State → Prop} {D : va_G} {cI cB cZ : ClassId} {a_this a_best a_likely a_places : Nat} {best : (Nat → Int32)} {likely : (Nat → Int32)} {all : Int32} {length : Int32} {let_ : Int32} (C0 : Cx p s m args c cX3_gain 6 RX3 wsX3_gain D (s_tys cI cB cZ) A) {rv : Int32} (hend : ∀ (pc : Nat) (H : Heap) (locs : List Loc) (ls : Array Slot), decode cX3_gain pc = .ok (.ireturn, 1) → sS D vwCl A s.heap (wd_X3_gain cI cB cZ a_this a_best a_likely a_places best likely all length let_) H locs → W p l e rm_X3_gain s m args below meth c H locs 0 0 Q (F0 m pc ls [.int rv])) : ∀  (l1 : Int32) (l3 : Int32) (t0 : Int32) (H : Heap) (locs : List Loc) (ls : Array Slot), f_X3_gain_b31 best likely l1 l3 t0 = some rv → sS D vwCl A s.heap (wd_X3_gain cI cB cZ a_this a_best a_likely a_places best likely all length let_) H locs → lv_has ls 6 [(0, .ref a_this), (1, .int l1), (3, .int l3)] → W p l e rm_X3_gain s m args below meth c H locs 0 0 Q (F0 m 31 ls [.int t0]) := by
  obtain ⟨hx, hb, hml, hown, hts, hK, hA⟩ := id C0
  have inX3 : ∀ w ∈ u_ws RX3 TX3 6, w ∈ wsX3_gain := inX3_X3_gain
  intro l1 l3 t0 H locs ls h hS hl
  unfold f_X3_gain_b31 at h
  refine lv_istore (lv' := [(5, .int t0), (0, .ref a_this), (1, .int l1), (3, .int l3)]) hx hb dX3_gain_31 hl (by decide) rfl (fun ls hl => ?_)
  refine lv_iload_n hx hb dX3_gain_33 rfl (lv_at hl 2 rfl) ?_
  refine lv_if_lt (tgt := 60) hx hb dX3_gain_34 (by decide) (fun c1 => ?_) (fun c1 => ?_)
  · replace h := s_yes c1 h
    refine lv_iload hx hb dX3_gain_60 (lv_at hl 0 rfl) ?_
    obtain rfl := Option.some.inj h
    exact hend _ _ _ _ dX3_gain_62 hS
  replace h := s_no c1 h
  refine lv_iload_n hx hb dX3_gain_37 rfl (lv_at hl 2 rfl) ?_
  refine lv_bipush (v := (7 : Int32)) hx hb dX3_gain_38 (by decide) ?_
  refine lv_icmp_ge (tgt := 60) hx hb dX3_gain_40 (by decide) (fun c2 => ?_) (fun c2 => ?_)
  · replace h := s_yes c2 h
    refine lv_iload hx hb dX3_gain_60 (lv_at hl 0 rfl) ?_
    obtain rfl := Option.some.inj h
    exact hend _ _ _ _ dX3_gain_62 hS
  replace h := s_no c2 h
  refine lv_aload_n hx hb dX3_gain_43 rfl (lv_at hl 1 rfl) ?_
  refine s_get (C := RX3) (T := TX3) (N := 6) hx hb hts inX3 hown hK hS 0 rfl rfl 1 (by decide) (hts (.fieldLink RX3 15 "InnTurned$Lineup" "likely" "[I") (List.mem_of_getElem? (i := 2) rfl)) rfl rfl dX3_gain_44 ?_
  refine lv_iload_n hx hb dX3_gain_47 rfl (lv_at hl 2 rfl) ?_
  obtain ⟨g3, h⟩ := s_guard h
  refine s_iald hx hb hK hS 2 rfl rfl g3 dX3_gain_48 ?_
  refine lv_iload_n hx hb dX3_gain_49 rfl (lv_at hl 3 rfl) ?_
  refine lv_icmp_gt (tgt := 60) hx hb dX3_gain_50 (by decide) (fun c4 => ?_) (fun c4 => ?_)
  · replace h := s_yes c4 h
    refine lv_iload hx hb dX3_gain_60 (lv_at hl 0 rfl) ?_
    obtain rfl := Option.some.inj h
    exact hend _ _ _ _ dX3_gain_62 hS
  replace h := s_no c4 h
  refine lv_iload hx hb dX3_gain_53 (lv_at hl 0 rfl) ?_
  refine lv_iconst (v := (1 : Int32)) hx hb dX3_gain_55 (by decide) ?_
  refine lv_iadd hx hb dX3_gain_56 ?_
  refine lv_goto (tgt := 62) hx hb dX3_gain_57 (by decide) ?_
  obtain rfl := Option.some.inj h
  exact hend _ _ _ _ dX3_gain_62 hS
def f_X3_gain_b30  (best : (Nat → Int32)) (likely : (Nat → Int32))  (l1 : Int32) (l3 : Int32) : Option (Int32) := f_X3_gain_b31  best likely l1 l3 (0 : Int32)
set_option maxHeartbeats 4000000 in
set_option maxRecDepth 100000 in
theorem w_X3_gain_b30 {p : Program} {l : Launch} {e : Env} {s : State} {m : MethodId} {args : Array Value} {below : List Frame} {meth : Method} {c : Code} {A : Nat → Prop} {Q : State → Prop} {D : va_G} {cI cB cZ : ClassId} {a_this a_best a_likely a_places : Nat} {best : (Nat → Int32)} {likely : (Nat → Int32)} {all : Int32} {length : Int32} {let_ : Int32} (C0 : Cx p s m args c cX3_gain 6 RX3 wsX3_gain D (s_tys cI cB cZ) A) {rv : Int32} (hend : ∀ (pc : Nat) (H : Heap) (locs : List Loc) (ls : Array Slot), decode cX3_gain pc = .ok (.ireturn, 1) → sS D vwCl A s.heap (wd_X3_gain cI cB cZ a_this a_best a_likely a_places best likely all length let_) H locs → W p l e rm_X3_gain s m args below meth c H locs 0 0 Q (F0 m pc ls [.int rv])) : ∀  (l1 : Int32) (l3 : Int32) (H : Heap) (locs : List Loc) (ls : Array Slot), f_X3_gain_b30 best likely l1 l3 = some rv → sS D vwCl A s.heap (wd_X3_gain cI cB cZ a_this a_best a_likely a_places best likely all length let_) H locs → lv_has ls 6 [(0, .ref a_this), (1, .int l1), (3, .int l3)] → W p l e rm_X3_gain s m args below meth c H locs 0 0 Q (F0 m 30 ls []) := by
  obtain ⟨hx, hb, hml, hown, hts, hK, hA⟩ := id C0
  have inX3 : ∀ w ∈ u_ws RX3 TX3 6, w ∈ wsX3_gain := inX3_X3_gain
  intro l1 l3 H locs ls h hS hl
  unfold f_X3_gain_b30 at h
  refine lv_iconst (v := (0 : Int32)) hx hb dX3_gain_30 (by decide) ?_
  exact w_X3_gain_b31 C0 hend  l1 l3 (0 : Int32) _ _ _ h hS (lv_sub hl [0, 1, 2] rfl)
def f_X3_gain  (best : (Nat → Int32)) (likely : (Nat → Int32))  (p1 : Int32) (p2 : Int32) (p3 : Int32) : Option (Int32) := (if (p2 ||| ((1 : Int32) <<< (p1 &&& 31))) < 0 then f_X3_gain_b30  best likely p1 p3 else (if (128 : Int32) ≤ (p2 ||| ((1 : Int32) <<< (p1 &&& 31))) then f_X3_gain_b30  best likely p1 p3 else (if ¬ ((p2 ||| ((1 : Int32) <<< (p1 &&& 31))) < 0 ∨ 128 ≤ (Int32.toNatClampNeg (p2 ||| ((1 : Int32) <<< (p1 &&& 31))))) then f_X3_gain_b31  best likely p1 p3 (best (Int32.toNatClampNeg (p2 ||| ((1 : Int32) <<< (p1 &&& 31))))) else none)))
set_option maxHeartbeats 4000000 in
set_option maxRecDepth 100000 in
theorem c_X3_gain (l : Launch) (D : va_G) (cI cB cZ : ClassId) (a_this : Nat) (a_best : Nat) (a_likely : Nat) (a_places : Nat) (best : (Nat → Int32)) (likely : (Nat → Int32)) (all : Int32) (length : Int32) (let_ : Int32) (p1 : Int32) (p2 : Int32) (p3 : Int32) (rv : Int32) (sz : Nat) (hf : f_X3_gain best likely p1 p2 p3 = some rv) : Met l yX3_gain wsX3_gain rm_X3_gain (sPc D vwCl (s_tys cI cB cZ) [.ref a_this, .int p1, .int p2, .int p3] (wd_X3_gain cI cB cZ a_this a_best a_likely a_places best likely all length let_) sz) (sQi D vwCl (wd_X3_gain cI cB cZ a_this a_best a_likely a_places best likely all length let_) (wd_X3_gain cI cB cZ a_this a_best a_likely a_places best likely all length let_) sz rv) 0 0 (va_A (wd_X3_gain cI cB cZ a_this a_best a_likely a_places best likely all length let_) sz) := by
  refine s_enter_n (cc := cX3_gain) (nL := 6) (r := rv) (by decide) rfl (Nat.le_of_ble_eq_true rfl) ?_
  intro p e s m args below meth c A Q C0 hend ls hl hS
  have h := hf
  clear hf
  replace hl : lv_has ls 6 [(0, .ref a_this), (1, .int p1), (2, .int p2), (3, .int p3)] := hl
  unfold f_X3_gain at h
  obtain ⟨hx, hb, hml, hown, hts, hK, hA⟩ := id C0
  have inX3 : ∀ w ∈ u_ws RX3 TX3 6, w ∈ wsX3_gain := inX3_X3_gain
  refine lv_iload_n hx hb dX3_gain_0 rfl (lv_at hl 2 rfl) ?_
  refine lv_iconst (v := (1 : Int32)) hx hb dX3_gain_1 (by decide) ?_
  refine lv_iload_n hx hb dX3_gain_2 rfl (lv_at hl 1 rfl) ?_
  refine lv_ishl hx hb dX3_gain_3 ?_
  refine lv_ior hx hb dX3_gain_4 ?_
  refine lv_istore (lv' := [(4, .int (p2 ||| ((1 : Int32) <<< (p1 &&& 31)))), (0, .ref a_this), (1, .int p1), (2, .int p2), (3, .int p3)]) hx hb dX3_gain_5 hl (by decide) rfl (fun ls hl => ?_)
  refine lv_iload hx hb dX3_gain_7 (lv_at hl 0 rfl) ?_
  refine lv_if_lt (tgt := 30) hx hb dX3_gain_9 (by decide) (fun c5 => ?_) (fun c5 => ?_)
  · replace h := s_yes c5 h
    exact w_X3_gain_b30 C0 hend  p1 p3 _ _ _ h hS (lv_sub hl [1, 2, 4] rfl)
  replace h := s_no c5 h
  refine lv_iload hx hb dX3_gain_12 (lv_at hl 0 rfl) ?_
  refine lv_sipush (v := (128 : Int32)) hx hb dX3_gain_14 (by decide) ?_
  refine lv_icmp_ge (tgt := 30) hx hb dX3_gain_17 (by decide) (fun c6 => ?_) (fun c6 => ?_)
  · replace h := s_yes c6 h
    exact w_X3_gain_b30 C0 hend  p1 p3 _ _ _ h hS (lv_sub hl [1, 2, 4] rfl)
  replace h := s_no c6 h
  refine lv_aload_n hx hb dX3_gain_20 rfl (lv_at hl 1 rfl) ?_
  refine s_get (C := RX3) (T := TX3) (N := 6) hx hb hts inX3 hown hK hS 0 rfl rfl 0 (by decide) (hts (.fieldLink RX3 11 "InnTurned$Lineup" "best" "[I") (List.mem_of_getElem? (i := 1) rfl)) rfl rfl dX3_gain_21 ?_
  refine lv_iload hx hb dX3_gain_24 (lv_at hl 0 rfl) ?_
  obtain ⟨g7, h⟩ := s_guard h
  refine s_iald hx hb hK hS 1 rfl rfl g7 dX3_gain_26 ?_
  refine lv_goto (tgt := 31) hx hb dX3_gain_27 (by decide) ?_
  exact w_X3_gain_b31 C0 hend  p1 p3 (best (Int32.toNatClampNeg (p2 ||| ((1 : Int32) <<< (p1 &&& 31))))) _ _ _ h hS (lv_sub hl [1, 2, 4] rfl)

-- InnTurned$Lineup.mostBehind(LInnTurned$House;I)I
def wd_X3_mostBehind (cI cB cZ : ClassId) (a_this : Nat) (a_best : Nat) (a_likely : Nat) (a_places : Nat) (a_p1 : Nat) (a_p1_wets : Nat) (a_p1_guests : Nat) (a_p1_sights : Nat) (a_p1_remarks : Nat) (a_p1_marks : Nat) (a_p1_past : Nat)  (best : (Nat → Int32)) (likely : (Nat → Int32)) (all : Int32) (length : Int32) (let_ : Int32) (p1_wets : (Nat → Int32)) (p1_host : Int32) (p1_rooms : Int32) (p1_night : Int32) (p1_wheels : Int32) (p1_turned : Int32) : va_W := [(a_this, .inr (1, [.ref a_best, .ref a_likely, .ref a_places, .int all, .int length, .int let_])), (a_best, .inl (cI, 128, .inl best)), (a_likely, .inl (cI, 7, .inl likely)), (a_p1, .inr (0, [.ref a_p1_wets, .ref a_p1_guests, .ref a_p1_sights, .ref a_p1_remarks, .ref a_p1_marks, .ref a_p1_past, .int p1_host, .int p1_rooms, .int p1_night, .int p1_wheels, .int p1_turned])), (a_p1_wets, .inl (cI, 6, .inl p1_wets))]
abbrev rm_X3_mostBehind : Room := { frames := 3, cells := 0, slots := 0, locals := 70 }
def f_X3_mostBehind_b45 (k_b13 : Int32 → Int32 → Int32 → Int32 → Option (Int32))  (best : (Nat → Int32)) (likely : (Nat → Int32)) (all : Int32) (p1_wets : (Nat → Int32)) (p1_host : Int32) (p1_night : Int32) (p1_wheels : Int32)  (l2 : Int32) (l3 : Int32) (l4 : Int32) (l5 : Int32) : Option (Int32) := k_b13 l2 l3 l4 (l5 + (1 : Int32))
set_option maxHeartbeats 4000000 in
set_option maxRecDepth 100000 in
theorem w_X3_mostBehind_b45 {p : Program} {l : Launch} {e : Env} {s : State} {m : MethodId} {args : Array Value} {below : List Frame} {meth : Method} {c : Code} {A : Nat → Prop} {Q : State → Prop} {D : va_G} {cI cB cZ : ClassId} {a_this a_best a_likely a_places a_p1 a_p1_wets a_p1_guests a_p1_sights a_p1_remarks a_p1_marks a_p1_past : Nat} {best : (Nat → Int32)} {likely : (Nat → Int32)} {all : Int32} {length : Int32} {let_ : Int32} {p1_wets : (Nat → Int32)} {p1_host : Int32} {p1_rooms : Int32} {p1_night : Int32} {p1_wheels : Int32} {p1_turned : Int32} (C0 : Cx p s m args c cX3_mostBehind 6 RX3 wsX3_mostBehind D (s_tys cI cB cZ) A) {rv : Int32} (hend : ∀ (pc : Nat) (H : Heap) (locs : List Loc) (ls : Array Slot), decode cX3_mostBehind pc = .ok (.ireturn, 1) → sS D vwCl A s.heap (wd_X3_mostBehind cI cB cZ a_this a_best a_likely a_places a_p1 a_p1_wets a_p1_guests a_p1_sights a_p1_remarks a_p1_marks a_p1_past best likely all length let_ p1_wets p1_host p1_rooms p1_night p1_wheels p1_turned) H locs → W p l e rm_X3_mostBehind s m args below meth c H locs 0 0 Q (F0 m pc ls [.int rv])) (k_b13 : Int32 → Int32 → Int32 → Int32 → Option (Int32)) (hk_b13 : ∀  (l2 : Int32) (l3 : Int32) (l4 : Int32) (l5 : Int32) (H : Heap) (locs : List Loc) (ls : Array Slot), k_b13 l2 l3 l4 l5 = some rv → sS D vwCl A s.heap (wd_X3_mostBehind cI cB cZ a_this a_best a_likely a_places a_p1 a_p1_wets a_p1_guests a_p1_sights a_p1_remarks a_p1_marks a_p1_past best likely all length let_ p1_wets p1_host p1_rooms p1_night p1_wheels p1_turned) H locs → lv_has ls 6 [(0, .ref a_this), (2, .int l2), (3, .int l3), (4, .int l4), (5, .int l5)] → W p l e rm_X3_mostBehind s m args below meth c H locs 0 0 Q (F0 m 13 ls [])) : ∀  (l2 : Int32) (l3 : Int32) (l4 : Int32) (l5 : Int32) (H : Heap) (locs : List Loc) (ls : Array Slot), f_X3_mostBehind_b45 k_b13 best likely all p1_wets p1_host p1_night p1_wheels l2 l3 l4 l5 = some rv → sS D vwCl A s.heap (wd_X3_mostBehind cI cB cZ a_this a_best a_likely a_places a_p1 a_p1_wets a_p1_guests a_p1_sights a_p1_remarks a_p1_marks a_p1_past best likely all length let_ p1_wets p1_host p1_rooms p1_night p1_wheels p1_turned) H locs → lv_has ls 6 [(0, .ref a_this), (2, .int l2), (3, .int l3), (4, .int l4), (5, .int l5)] → W p l e rm_X3_mostBehind s m args below meth c H locs 0 0 Q (F0 m 45 ls []) := by
  obtain ⟨hx, hb, hml, hown, hts, hK, hA⟩ := id C0
  intro l2 l3 l4 l5 H locs ls h hS hl
  unfold f_X3_mostBehind_b45 at h
  refine lv_iinc (v := (l5 + (1 : Int32))) (lv' := [(5, .int (l5 + (1 : Int32))), (0, .ref a_this), (2, .int l2), (3, .int l3), (4, .int l4)]) hx hb dX3_mostBehind_45 hl (k := 4) rfl rfl (by decide) rfl (fun ls hl => ?_)
  refine lv_goto (tgt := 13) hx hb dX3_mostBehind_48 (by decide) ?_
  exact hk_b13 l2 l3 l4 (l5 + (1 : Int32)) _ _ _ h hS (lv_sub hl [1, 2, 3, 4, 0] rfl)
def f_X3_mostBehind_b13  (best : (Nat → Int32)) (likely : (Nat → Int32)) (all : Int32) (p1_wets : (Nat → Int32)) (p1_host : Int32) (p1_night : Int32) (p1_wheels : Int32) : Nat → Int32 → Int32 → Int32 → Int32 → Option (Int32)
  | 0, _, _, _, _ => none
  | fu + 1, l2, l3, l4, l5 => (if (7 : Int32) ≤ l5 then some (l4) else ((f_X3_waits all l5 l2).bind fun q2 => (if q2 = 0 then f_X3_mostBehind_b45 (f_X3_mostBehind_b13 best likely all p1_wets p1_host p1_night p1_wheels fu) best likely all p1_wets p1_host p1_night p1_wheels l2 l3 l4 l5 else ((f_X3_gain best likely l5 l2 l3).bind fun q4 => f_X3_mostBehind_b45 (f_X3_mostBehind_b13 best likely all p1_wets p1_host p1_night p1_wheels fu) best likely all p1_wets p1_host p1_night p1_wheels l2 l3 (if l4 < q4 then q4 else l4) l5))))
set_option maxHeartbeats 4000000 in
set_option maxRecDepth 100000 in
theorem w_X3_mostBehind_b13 {p : Program} {l : Launch} {e : Env} {s : State} {m : MethodId} {args : Array Value} {below : List Frame} {meth : Method} {c : Code} {A : Nat → Prop} {Q : State → Prop} {D : va_G} {cI cB cZ : ClassId} {a_this a_best a_likely a_places a_p1 a_p1_wets a_p1_guests a_p1_sights a_p1_remarks a_p1_marks a_p1_past : Nat} {best : (Nat → Int32)} {likely : (Nat → Int32)} {all : Int32} {length : Int32} {let_ : Int32} {p1_wets : (Nat → Int32)} {p1_host : Int32} {p1_rooms : Int32} {p1_night : Int32} {p1_wheels : Int32} {p1_turned : Int32} (C0 : Cx p s m args c cX3_mostBehind 6 RX3 wsX3_mostBehind D (s_tys cI cB cZ) A) {rv : Int32} (hend : ∀ (pc : Nat) (H : Heap) (locs : List Loc) (ls : Array Slot), decode cX3_mostBehind pc = .ok (.ireturn, 1) → sS D vwCl A s.heap (wd_X3_mostBehind cI cB cZ a_this a_best a_likely a_places a_p1 a_p1_wets a_p1_guests a_p1_sights a_p1_remarks a_p1_marks a_p1_past best likely all length let_ p1_wets p1_host p1_rooms p1_night p1_wheels p1_turned) H locs → W p l e rm_X3_mostBehind s m args below meth c H locs 0 0 Q (F0 m pc ls [.int rv])) : ∀ (fu : Nat)  (l2 : Int32) (l3 : Int32) (l4 : Int32) (l5 : Int32) (H : Heap) (locs : List Loc) (ls : Array Slot), f_X3_mostBehind_b13 best likely all p1_wets p1_host p1_night p1_wheels fu l2 l3 l4 l5 = some rv → sS D vwCl A s.heap (wd_X3_mostBehind cI cB cZ a_this a_best a_likely a_places a_p1 a_p1_wets a_p1_guests a_p1_sights a_p1_remarks a_p1_marks a_p1_past best likely all length let_ p1_wets p1_host p1_rooms p1_night p1_wheels p1_turned) H locs → lv_has ls 6 [(0, .ref a_this), (2, .int l2), (3, .int l3), (4, .int l4), (5, .int l5)] → W p l e rm_X3_mostBehind s m args below meth c H locs 0 0 Q (F0 m 13 ls []) := by
  obtain ⟨hx, hb, hml, hown, hts, hK, hA⟩ := id C0
  intro fu
  induction fu with
  | zero => intro l2 l3 l4 l5 H locs ls h; cases h
  | succ fu ih =>
    intro l2 l3 l4 l5 H locs ls h hS hl
    rw [f_X3_mostBehind_b13] at h
    refine lv_iload hx hb dX3_mostBehind_13 (lv_at hl 4 rfl) ?_
    refine lv_bipush (v := (7 : Int32)) hx hb dX3_mostBehind_15 (by decide) ?_
    refine lv_icmp_ge (tgt := 51) hx hb dX3_mostBehind_17 (by decide) (fun c1 => ?_) (fun c1 => ?_)
    · replace h := s_yes c1 h
      refine lv_iload hx hb dX3_mostBehind_51 (lv_at hl 3 rfl) ?_
      obtain rfl := Option.some.inj h
      exact hend _ _ _ _ dX3_mostBehind_53 hS
    replace h := s_no c1 h
    refine lv_aload_n hx hb dX3_mostBehind_20 rfl (lv_at hl 0 rfl) ?_
    refine lv_iload hx hb dX3_mostBehind_21 (lv_at hl 4 rfl) ?_
    refine lv_iload_n hx hb dX3_mostBehind_23 rfl (lv_at hl 1 rfl) ?_
    obtain ⟨q2, hq2, h⟩ := s_bind h
    refine u_calliV (r := q2) (As := [.int l5, .int l2]) (rest := []) (wc := (wd_X3_waits cI cB cZ a_this a_best a_likely a_places all length let_)) hx hb hml hown hts hK hA hl hS (c_X3_waits l D cI cB cZ a_this a_best a_likely a_places all length let_ l5 l2 _ _ hq2) (cwV 2 hts gX3_mostBehind_X3_waits rfl rfl rfl (by decide +kernel) ⟨Nat.le_of_ble_eq_true rfl, Nat.le_of_ble_eq_true rfl⟩) 0 rfl rfl [0] rfl rfl rfl rfl (Nat.le_of_ble_eq_true rfl) dX3_mostBehind_24 (fun H locs hS => ?_)
    refine lv_if_eq (tgt := 45) hx hb dX3_mostBehind_27 (by decide) (fun c3 => ?_) (fun c3 => ?_)
    · replace h := s_yes c3 h
      exact w_X3_mostBehind_b45 C0 hend (f_X3_mostBehind_b13 best likely all p1_wets p1_host p1_night p1_wheels fu) ih l2 l3 l4 l5 _ _ _ h hS (lv_sub hl [0, 1, 2, 3, 4] rfl)
    replace h := s_no c3 h
    refine lv_iload hx hb dX3_mostBehind_30 (lv_at hl 3 rfl) ?_
    refine lv_aload_n hx hb dX3_mostBehind_32 rfl (lv_at hl 0 rfl) ?_
    refine lv_iload hx hb dX3_mostBehind_33 (lv_at hl 4 rfl) ?_
    refine lv_iload_n hx hb dX3_mostBehind_35 rfl (lv_at hl 1 rfl) ?_
    refine lv_iload_n hx hb dX3_mostBehind_36 rfl (lv_at hl 2 rfl) ?_
    obtain ⟨q4, hq4, h⟩ := s_bind h
    refine u_calliV (r := q4) (As := [.int l5, .int l2, .int l3]) (rest := [.int l4]) (wc := (wd_X3_gain cI cB cZ a_this a_best a_likely a_places best likely all length let_)) hx hb hml hown hts hK hA hl hS (c_X3_gain l D cI cB cZ a_this a_best a_likely a_places best likely all length let_ l5 l2 l3 _ _ hq4) (cwV 3 hts gX3_mostBehind_X3_gain rfl rfl rfl (by decide +kernel) ⟨Nat.le_of_ble_eq_true rfl, Nat.le_of_ble_eq_true rfl⟩) 0 rfl rfl [0, 1, 2] rfl rfl rfl rfl (Nat.le_of_ble_eq_true rfl) dX3_mostBehind_37 (fun H locs hS => ?_)
    refine s_max hx hb hml hl.1 hown (hts (.methodLink RX3 82 Lib.Math.max.name) (List.mem_of_getElem? (i := 1) rfl)) (hts (.static Lib.Math.max.name) (List.mem_of_getElem? (i := 2) rfl)) (hts (.initialized "java/lang/Math") (List.mem_of_getElem? (i := 3) rfl)) (hts (.code Lib.Math.max.name Lib.Math.max.code 2 (some .int)) (List.mem_of_getElem? (i := 4) rfl)) (Nat.le_of_ble_eq_true rfl) (Nat.le_of_ble_eq_true rfl) dX3_mostBehind_40 ?_
    refine lv_istore (lv' := [(4, .int (if l4 < q4 then q4 else l4)), (0, .ref a_this), (2, .int l2), (3, .int l3), (5, .int l5)]) hx hb dX3_mostBehind_43 hl (by decide) rfl (fun ls hl => ?_)
    exact w_X3_mostBehind_b45 C0 hend (f_X3_mostBehind_b13 best likely all p1_wets p1_host p1_night p1_wheels fu) ih l2 l3 (if l4 < q4 then q4 else l4) l5 _ _ _ h hS (lv_sub hl [1, 2, 3, 0, 4] rfl)
def f_X3_mostBehind  (best : (Nat → Int32)) (likely : (Nat → Int32)) (all : Int32) (p1_wets : (Nat → Int32)) (p1_host : Int32) (p1_night : Int32) (p1_wheels : Int32)  (p2 : Int32) : Option (Int32) := ((f_X3_letsBehind p1_wets p1_host p1_night p1_wheels p2).bind fun q5 => f_X3_mostBehind_b13  best likely all p1_wets p1_host p1_night p1_wheels s_fuel p2 q5 (0 : Int32) (0 : Int32))
set_option maxHeartbeats 4000000 in
set_option maxRecDepth 100000 in
theorem c_X3_mostBehind (l : Launch) (D : va_G) (cI cB cZ : ClassId) (a_this : Nat) (a_best : Nat) (a_likely : Nat) (a_places : Nat) (a_p1 : Nat) (a_p1_wets : Nat) (a_p1_guests : Nat) (a_p1_sights : Nat) (a_p1_remarks : Nat) (a_p1_marks : Nat) (a_p1_past : Nat) (best : (Nat → Int32)) (likely : (Nat → Int32)) (all : Int32) (length : Int32) (let_ : Int32) (p1_wets : (Nat → Int32)) (p1_host : Int32) (p1_rooms : Int32) (p1_night : Int32) (p1_wheels : Int32) (p1_turned : Int32) (p2 : Int32) (rv : Int32) (sz : Nat) (hf : f_X3_mostBehind best likely all p1_wets p1_host p1_night p1_wheels p2 = some rv) : Met l yX3_mostBehind wsX3_mostBehind rm_X3_mostBehind (sPc D vwCl (s_tys cI cB cZ) [.ref a_this, .ref a_p1, .int p2] (wd_X3_mostBehind cI cB cZ a_this a_best a_likely a_places a_p1 a_p1_wets a_p1_guests a_p1_sights a_p1_remarks a_p1_marks a_p1_past best likely all length let_ p1_wets p1_host p1_rooms p1_night p1_wheels p1_turned) sz) (sQi D vwCl (wd_X3_mostBehind cI cB cZ a_this a_best a_likely a_places a_p1 a_p1_wets a_p1_guests a_p1_sights a_p1_remarks a_p1_marks a_p1_past best likely all length let_ p1_wets p1_host p1_rooms p1_night p1_wheels p1_turned) (wd_X3_mostBehind cI cB cZ a_this a_best a_likely a_places a_p1 a_p1_wets a_p1_guests a_p1_sights a_p1_remarks a_p1_marks a_p1_past best likely all length let_ p1_wets p1_host p1_rooms p1_night p1_wheels p1_turned) sz rv) 0 0 (va_A (wd_X3_mostBehind cI cB cZ a_this a_best a_likely a_places a_p1 a_p1_wets a_p1_guests a_p1_sights a_p1_remarks a_p1_marks a_p1_past best likely all length let_ p1_wets p1_host p1_rooms p1_night p1_wheels p1_turned) sz) := by
  refine s_enter_n (cc := cX3_mostBehind) (nL := 6) (r := rv) (by decide) rfl (Nat.le_of_ble_eq_true rfl) ?_
  intro p e s m args below meth c A Q C0 hend ls hl hS
  have h := hf
  clear hf
  replace hl : lv_has ls 6 [(0, .ref a_this), (1, .ref a_p1), (2, .int p2)] := hl
  unfold f_X3_mostBehind at h
  obtain ⟨hx, hb, hml, hown, hts, hK, hA⟩ := id C0
  refine lv_aload_n hx hb dX3_mostBehind_0 rfl (lv_at hl 0 rfl) ?_
  refine lv_aload_n hx hb dX3_mostBehind_1 rfl (lv_at hl 1 rfl) ?_
  refine lv_iload_n hx hb dX3_mostBehind_2 rfl (lv_at hl 2 rfl) ?_
  obtain ⟨q5, hq5, h⟩ := s_bind h
  refine u_calliV (r := q5) (As := [.ref a_p1, .int p2]) (rest := []) (wc := (wd_X3_letsBehind cI cB cZ a_this a_p1 a_p1_wets a_p1_guests a_p1_sights a_p1_remarks a_p1_marks a_p1_past p1_wets p1_host p1_rooms p1_night p1_wheels p1_turned)) hx hb hml hown hts hK hA hl hS (c_X3_letsBehind l D cI cB cZ a_this a_p1 a_p1_wets a_p1_guests a_p1_sights a_p1_remarks a_p1_marks a_p1_past p1_wets p1_host p1_rooms p1_night p1_wheels p1_turned p2 _ _ hq5) (cwV 2 hts gX3_mostBehind_X3_letsBehind rfl rfl rfl (by decide +kernel) ⟨Nat.le_of_ble_eq_true rfl, Nat.le_of_ble_eq_true rfl⟩) 0 rfl rfl [3, 4] rfl rfl rfl rfl (Nat.le_of_ble_eq_true rfl) dX3_mostBehind_3 (fun H locs hS => ?_)
  refine lv_istore_n (lv' := [(3, .int q5), (0, .ref a_this), (1, .ref a_p1), (2, .int p2)]) hx hb dX3_mostBehind_6 rfl hl (by decide) rfl (fun ls hl => ?_)
  refine lv_iconst (v := (0 : Int32)) hx hb dX3_mostBehind_7 (by decide) ?_
  refine lv_istore (lv' := [(4, .int (0 : Int32)), (3, .int q5), (0, .ref a_this), (1, .ref a_p1), (2, .int p2)]) hx hb dX3_mostBehind_8 hl (by decide) rfl (fun ls hl => ?_)
  refine lv_iconst (v := (0 : Int32)) hx hb dX3_mostBehind_10 (by decide) ?_
  refine lv_istore (lv' := [(5, .int (0 : Int32)), (4, .int (0 : Int32)), (3, .int q5), (0, .ref a_this), (1, .ref a_p1), (2, .int p2)]) hx hb dX3_mostBehind_11 hl (by decide) rfl (fun ls hl => ?_)
  exact w_X3_mostBehind_b13 C0 hend  s_fuel p2 q5 (0 : Int32) (0 : Int32) _ _ _ h hS (lv_sub hl [3, 5, 2, 1, 0] rfl)

-- InnTurned$Lineup.choose(LInnTurned$House;)V
def wd_X3_choose (cI cB cZ : ClassId) (a_this : Nat) (a_best : Nat) (a_likely : Nat) (a_places : Nat) (a_p1 : Nat) (a_p1_wets : Nat) (a_p1_guests : Nat) (a_p1_sights : Nat) (a_p1_remarks : Nat) (a_p1_marks : Nat) (a_p1_past : Nat)  (best : (Nat → Int32)) (likely : (Nat → Int32)) (places : (Nat → Int32)) (all : Int32) (length : Int32) (let_ : Int32) (p1_wets : (Nat → Int32)) (p1_host : Int32) (p1_rooms : Int32) (p1_night : Int32) (p1_wheels : Int32) (p1_turned : Int32) : va_W := [(a_this, .inr (1, [.ref a_best, .ref a_likely, .ref a_places, .int all, .int length, .int let_])), (a_best, .inl (cI, 128, .inl best)), (a_likely, .inl (cI, 7, .inl likely)), (a_places, .inl (cI, 7, .inl places)), (a_p1, .inr (0, [.ref a_p1_wets, .ref a_p1_guests, .ref a_p1_sights, .ref a_p1_remarks, .ref a_p1_marks, .ref a_p1_past, .int p1_host, .int p1_rooms, .int p1_night, .int p1_wheels, .int p1_turned])), (a_p1_wets, .inl (cI, 6, .inl p1_wets))]
abbrev rm_X3_choose : Room := { frames := 3, cells := 0, slots := 0, locals := 70 }
set_option maxRecDepth 20000 in
theorem inX3_X3_choose : ∀ w ∈ u_ws RX3 TX3 6, w ∈ wsX3_choose := by decide +kernel
def f_X3_choose_b113 (k_b12 : (Nat → Int32) → Int32 → Int32 → Int32 → Int32 → Option ((Nat → Int32) × Int32))  (best : (Nat → Int32)) (likely : (Nat → Int32)) (all : Int32) (let_ : Int32) (p1_wets : (Nat → Int32)) (p1_host : Int32) (p1_night : Int32) (p1_wheels : Int32) (places : (Nat → Int32)) (length : Int32) (l2 : Int32) (l3 : Int32) (l4 : Int32) : Option ((Nat → Int32) × Int32) := k_b12 places length l2 l3 (l4 + (1 : Int32))
set_option maxHeartbeats 4000000 in
set_option maxRecDepth 100000 in
theorem w_X3_choose_b113 {p : Program} {l : Launch} {e : Env} {s : State} {m : MethodId} {args : Array Value} {below : List Frame} {meth : Method} {c : Code} {A : Nat → Prop} {Q : State → Prop} {D : va_G} {cI cB cZ : ClassId} {a_this a_best a_likely a_places a_p1 a_p1_wets a_p1_guests a_p1_sights a_p1_remarks a_p1_marks a_p1_past : Nat} {best : (Nat → Int32)} {likely : (Nat → Int32)} {all : Int32} {let_ : Int32} {p1_wets : (Nat → Int32)} {p1_host : Int32} {p1_rooms : Int32} {p1_night : Int32} {p1_wheels : Int32} {p1_turned : Int32} (C0 : Cx p s m args c cX3_choose 7 RX3 wsX3_choose D (s_tys cI cB cZ) A) {rv : (Nat → Int32) × Int32} (hend : ∀ (pc : Nat) (H : Heap) (locs : List Loc) (ls : Array Slot), decode cX3_choose pc = .ok (.return_, 1) → sS D vwCl A s.heap (wd_X3_choose cI cB cZ a_this a_best a_likely a_places a_p1 a_p1_wets a_p1_guests a_p1_sights a_p1_remarks a_p1_marks a_p1_past best likely rv.1 all rv.2 let_ p1_wets p1_host p1_rooms p1_night p1_wheels p1_turned) H locs → W p l e rm_X3_choose s m args below meth c H locs 0 0 Q (F0 m pc ls [])) (k_b12 : (Nat → Int32) → Int32 → Int32 → Int32 → Int32 → Option ((Nat → Int32) × Int32)) (hk_b12 : ∀ (places : (Nat → Int32)) (length : Int32) (l2 : Int32) (l3 : Int32) (l4 : Int32) (H : Heap) (locs : List Loc) (ls : Array Slot), k_b12 places length l2 l3 l4 = some rv → sS D vwCl A s.heap (wd_X3_choose cI cB cZ a_this a_best a_likely a_places a_p1 a_p1_wets a_p1_guests a_p1_sights a_p1_remarks a_p1_marks a_p1_past best likely places all length let_ p1_wets p1_host p1_rooms p1_night p1_wheels p1_turned) H locs → lv_has ls 7 [(0, .ref a_this), (1, .ref a_p1), (2, .int l2), (3, .int l3), (4, .int l4)] → W p l e rm_X3_choose s m args below meth c H locs 0 0 Q (F0 m 12 ls [])) : ∀ (places : (Nat → Int32)) (length : Int32) (l2 : Int32) (l3 : Int32) (l4 : Int32) (H : Heap) (locs : List Loc) (ls : Array Slot), f_X3_choose_b113 k_b12 best likely all let_ p1_wets p1_host p1_night p1_wheels places length l2 l3 l4 = some rv → sS D vwCl A s.heap (wd_X3_choose cI cB cZ a_this a_best a_likely a_places a_p1 a_p1_wets a_p1_guests a_p1_sights a_p1_remarks a_p1_marks a_p1_past best likely places all length let_ p1_wets p1_host p1_rooms p1_night p1_wheels p1_turned) H locs → lv_has ls 7 [(0, .ref a_this), (1, .ref a_p1), (2, .int l2), (3, .int l3), (4, .int l4)] → W p l e rm_X3_choose s m args below meth c H locs 0 0 Q (F0 m 113 ls []) := by
  obtain ⟨hx, hb, hml, hown, hts, hK, hA⟩ := id C0
  have inX3 : ∀ w ∈ u_ws RX3 TX3 6, w ∈ wsX3_choose := inX3_X3_choose
  intro places length l2 l3 l4 H locs ls h hS hl
  unfold f_X3_choose_b113 at h
  refine lv_iinc (v := (l4 + (1 : Int32))) (lv' := [(4, .int (l4 + (1 : Int32))), (0, .ref a_this), (1, .ref a_p1), (2, .int l2), (3, .int l3)]) hx hb dX3_choose_113 hl (k := 4) rfl rfl (by decide) rfl (fun ls hl => ?_)
  refine lv_goto (tgt := 12) hx hb dX3_choose_116 (by decide) ?_
  exact hk_b12 places length l2 l3 (l4 + (1 : Int32)) _ _ _ h hS (lv_sub hl [1, 2, 3, 4, 0] rfl)
def f_X3_choose_b107 (k_b12 : (Nat → Int32) → Int32 → Int32 → Int32 → Int32 → Option ((Nat → Int32) × Int32)) (k_b30 : (Nat → Int32) → Int32 → Int32 → Int32 → Int32 → Int32 → Int32 → Option ((Nat → Int32) × Int32))  (best : (Nat → Int32)) (likely : (Nat → Int32)) (all : Int32) (let_ : Int32) (p1_wets : (Nat → Int32)) (p1_host : Int32) (p1_night : Int32) (p1_wheels : Int32) (places : (Nat → Int32)) (length : Int32) (l2 : Int32) (l3 : Int32) (l4 : Int32) (l5 : Int32) (l6 : Int32) : Option ((Nat → Int32) × Int32) := k_b30 places length l2 l3 l4 l5 (l6 + (1 : Int32))
set_option maxHeartbeats 4000000 in
set_option maxRecDepth 100000 in
theorem w_X3_choose_b107 {p : Program} {l : Launch} {e : Env} {s : State} {m : MethodId} {args : Array Value} {below : List Frame} {meth : Method} {c : Code} {A : Nat → Prop} {Q : State → Prop} {D : va_G} {cI cB cZ : ClassId} {a_this a_best a_likely a_places a_p1 a_p1_wets a_p1_guests a_p1_sights a_p1_remarks a_p1_marks a_p1_past : Nat} {best : (Nat → Int32)} {likely : (Nat → Int32)} {all : Int32} {let_ : Int32} {p1_wets : (Nat → Int32)} {p1_host : Int32} {p1_rooms : Int32} {p1_night : Int32} {p1_wheels : Int32} {p1_turned : Int32} (C0 : Cx p s m args c cX3_choose 7 RX3 wsX3_choose D (s_tys cI cB cZ) A) {rv : (Nat → Int32) × Int32} (hend : ∀ (pc : Nat) (H : Heap) (locs : List Loc) (ls : Array Slot), decode cX3_choose pc = .ok (.return_, 1) → sS D vwCl A s.heap (wd_X3_choose cI cB cZ a_this a_best a_likely a_places a_p1 a_p1_wets a_p1_guests a_p1_sights a_p1_remarks a_p1_marks a_p1_past best likely rv.1 all rv.2 let_ p1_wets p1_host p1_rooms p1_night p1_wheels p1_turned) H locs → W p l e rm_X3_choose s m args below meth c H locs 0 0 Q (F0 m pc ls [])) (k_b12 : (Nat → Int32) → Int32 → Int32 → Int32 → Int32 → Option ((Nat → Int32) × Int32)) (hk_b12 : ∀ (places : (Nat → Int32)) (length : Int32) (l2 : Int32) (l3 : Int32) (l4 : Int32) (H : Heap) (locs : List Loc) (ls : Array Slot), k_b12 places length l2 l3 l4 = some rv → sS D vwCl A s.heap (wd_X3_choose cI cB cZ a_this a_best a_likely a_places a_p1 a_p1_wets a_p1_guests a_p1_sights a_p1_remarks a_p1_marks a_p1_past best likely places all length let_ p1_wets p1_host p1_rooms p1_night p1_wheels p1_turned) H locs → lv_has ls 7 [(0, .ref a_this), (1, .ref a_p1), (2, .int l2), (3, .int l3), (4, .int l4)] → W p l e rm_X3_choose s m args below meth c H locs 0 0 Q (F0 m 12 ls [])) (k_b30 : (Nat → Int32) → Int32 → Int32 → Int32 → Int32 → Int32 → Int32 → Option ((Nat → Int32) × Int32)) (hk_b30 : ∀ (places : (Nat → Int32)) (length : Int32) (l2 : Int32) (l3 : Int32) (l4 : Int32) (l5 : Int32) (l6 : Int32) (H : Heap) (locs : List Loc) (ls : Array Slot), k_b30 places length l2 l3 l4 l5 l6 = some rv → sS D vwCl A s.heap (wd_X3_choose cI cB cZ a_this a_best a_likely a_places a_p1 a_p1_wets a_p1_guests a_p1_sights a_p1_remarks a_p1_marks a_p1_past best likely places all length let_ p1_wets p1_host p1_rooms p1_night p1_wheels p1_turned) H locs → lv_has ls 7 [(0, .ref a_this), (1, .ref a_p1), (2, .int l2), (3, .int l3), (4, .int l4), (5, .int l5), (6, .int l6)] → W p l e rm_X3_choose s m args below meth c H locs 0 0 Q (F0 m 30 ls [])) : ∀ (places : (Nat → Int32)) (length : Int32) (l2 : Int32) (l3 : Int32) (l4 : Int32) (l5 : Int32) (l6 : Int32) (H : Heap) (locs : List Loc) (ls : Array Slot), f_X3_choose_b107 k_b12 k_b30 best likely all let_ p1_wets p1_host p1_night p1_wheels places length l2 l3 l4 l5 l6 = some rv → sS D vwCl A s.heap (wd_X3_choose cI cB cZ a_this a_best a_likely a_places a_p1 a_p1_wets a_p1_guests a_p1_sights a_p1_remarks a_p1_marks a_p1_past best likely places all length let_ p1_wets p1_host p1_rooms p1_night p1_wheels p1_turned) H locs → lv_has ls 7 [(0, .ref a_this), (1, .ref a_p1), (2, .int l2), (3, .int l3), (4, .int l4), (5, .int l5), (6, .int l6)] → W p l e rm_X3_choose s m args below meth c H locs 0 0 Q (F0 m 107 ls []) := by
  obtain ⟨hx, hb, hml, hown, hts, hK, hA⟩ := id C0
  have inX3 : ∀ w ∈ u_ws RX3 TX3 6, w ∈ wsX3_choose := inX3_X3_choose
  intro places length l2 l3 l4 l5 l6 H locs ls h hS hl
  unfold f_X3_choose_b107 at h
  refine lv_iinc (v := (l6 + (1 : Int32))) (lv' := [(6, .int (l6 + (1 : Int32))), (0, .ref a_this), (1, .ref a_p1), (2, .int l2), (3, .int l3), (4, .int l4), (5, .int l5)]) hx hb dX3_choose_107 hl (k := 6) rfl rfl (by decide) rfl (fun ls hl => ?_)
  refine lv_goto (tgt := 30) hx hb dX3_choose_110 (by decide) ?_
  exact hk_b30 places length l2 l3 l4 l5 (l6 + (1 : Int32)) _ _ _ h hS (lv_sub hl [1, 2, 3, 4, 5, 6, 0] rfl)
def f_X3_choose_b80 (k_b12 : (Nat → Int32) → Int32 → Int32 → Int32 → Int32 → Option ((Nat → Int32) × Int32))  (best : (Nat → Int32)) (likely : (Nat → Int32)) (all : Int32) (let_ : Int32) (p1_wets : (Nat → Int32)) (p1_host : Int32) (p1_night : Int32) (p1_wheels : Int32) (places : (Nat → Int32)) (length : Int32) (l2 : Int32) (l3 : Int32) (l4 : Int32) (l6 : Int32) : Option ((Nat → Int32) × Int32) := (if ¬ (l4 < 0 ∨ 7 ≤ (Int32.toNatClampNeg l4)) then f_X3_choose_b113 k_b12 best likely all let_ p1_wets p1_host p1_night p1_wheels (upd places (Int32.toNatClampNeg l4) l6) (l4 + (1 : Int32)) (l2 ||| ((1 : Int32) <<< (l6 &&& 31))) l3 l4 else none)
set_option maxHeartbeats 4000000 in
set_option maxRecDepth 100000 in
theorem w_X3_choose_b80 {p : Program} {l : Launch} {e : Env} {s : State} {m : MethodId} {args : Array Value} {below : List Frame} {meth : Method} {c : Code} {A : Nat → Prop} {Q : State → Prop} {D : va_G} {cI cB cZ : ClassId} {a_this a_best a_likely a_places a_p1 a_p1_wets a_p1_guests a_p1_sights a_p1_remarks a_p1_marks a_p1_past : Nat} {best : (Nat → Int32)} {likely : (Nat → Int32)} {all : Int32} {let_ : Int32} {p1_wets : (Nat → Int32)} {p1_host : Int32} {p1_rooms : Int32} {p1_night : Int32} {p1_wheels : Int32} {p1_turned : Int32} (C0 : Cx p s m args c cX3_choose 7 RX3 wsX3_choose D (s_tys cI cB cZ) A) {rv : (Nat → Int32) × Int32} (hend : ∀ (pc : Nat) (H : Heap) (locs : List Loc) (ls : Array Slot), decode cX3_choose pc = .ok (.return_, 1) → sS D vwCl A s.heap (wd_X3_choose cI cB cZ a_this a_best a_likely a_places a_p1 a_p1_wets a_p1_guests a_p1_sights a_p1_remarks a_p1_marks a_p1_past best likely rv.1 all rv.2 let_ p1_wets p1_host p1_rooms p1_night p1_wheels p1_turned) H locs → W p l e rm_X3_choose s m args below meth c H locs 0 0 Q (F0 m pc ls [])) (k_b12 : (Nat → Int32) → Int32 → Int32 → Int32 → Int32 → Option ((Nat → Int32) × Int32)) (hk_b12 : ∀ (places : (Nat → Int32)) (length : Int32) (l2 : Int32) (l3 : Int32) (l4 : Int32) (H : Heap) (locs : List Loc) (ls : Array Slot), k_b12 places length l2 l3 l4 = some rv → sS D vwCl A s.heap (wd_X3_choose cI cB cZ a_this a_best a_likely a_places a_p1 a_p1_wets a_p1_guests a_p1_sights a_p1_remarks a_p1_marks a_p1_past best likely places all length let_ p1_wets p1_host p1_rooms p1_night p1_wheels p1_turned) H locs → lv_has ls 7 [(0, .ref a_this), (1, .ref a_p1), (2, .int l2), (3, .int l3), (4, .int l4)] → W p l e rm_X3_choose s m args below meth c H locs 0 0 Q (F0 m 12 ls [])) : ∀ (places : (Nat → Int32)) (length : Int32) (l2 : Int32) (l3 : Int32) (l4 : Int32) (l6 : Int32) (H : Heap) (locs : List Loc) (ls : Array Slot), f_X3_choose_b80 k_b12 best likely all let_ p1_wets p1_host p1_night p1_wheels places length l2 l3 l4 l6 = some rv → sS D vwCl A s.heap (wd_X3_choose cI cB cZ a_this a_best a_likely a_places a_p1 a_p1_wets a_p1_guests a_p1_sights a_p1_remarks a_p1_marks a_p1_past best likely places all length let_ p1_wets p1_host p1_rooms p1_night p1_wheels p1_turned) H locs → lv_has ls 7 [(0, .ref a_this), (1, .ref a_p1), (2, .int l2), (3, .int l3), (4, .int l4), (6, .int l6)] → W p l e rm_X3_choose s m args below meth c H locs 0 0 Q (F0 m 80 ls []) := by
  obtain ⟨hx, hb, hml, hown, hts, hK, hA⟩ := id C0
  have inX3 : ∀ w ∈ u_ws RX3 TX3 6, w ∈ wsX3_choose := inX3_X3_choose
  intro places length l2 l3 l4 l6 H locs ls h hS hl
  unfold f_X3_choose_b80 at h
  refine lv_iload_n hx hb dX3_choose_80 rfl (lv_at hl 2 rfl) ?_
  refine lv_iconst (v := (1 : Int32)) hx hb dX3_choose_81 (by decide) ?_
  refine lv_iload hx hb dX3_choose_82 (lv_at hl 5 rfl) ?_
  refine lv_ishl hx hb dX3_choose_84 ?_
  refine lv_ior hx hb dX3_choose_85 ?_
  refine lv_istore_n (lv' := [(2, .int (l2 ||| ((1 : Int32) <<< (l6 &&& 31)))), (0, .ref a_this), (1, .ref a_p1), (3, .int l3), (4, .int l4), (6, .int l6)]) hx hb dX3_choose_86 rfl hl (by decide) rfl (fun ls hl => ?_)
  refine lv_aload_n hx hb dX3_choose_87 rfl (lv_at hl 1 rfl) ?_
  refine s_get (C := RX3) (T := TX3) (N := 6) hx hb hts inX3 hown hK hS 0 rfl rfl 2 (by decide) (hts (.fieldLink RX3 18 "InnTurned$Lineup" "places" "[I") (List.mem_of_getElem? (i := 4) rfl)) rfl rfl dX3_choose_88 ?_
  refine lv_iload hx hb dX3_choose_91 (lv_at hl 4 rfl) ?_
  refine lv_iload hx hb dX3_choose_93 (lv_at hl 5 rfl) ?_
  obtain ⟨g1, h⟩ := s_guard h
  refine s_iast (ws' := (wd_X3_choose cI cB cZ a_this a_best a_likely a_places a_p1 a_p1_wets a_p1_guests a_p1_sights a_p1_remarks a_p1_marks a_p1_past best likely (upd places (Int32.toNatClampNeg l4) l6) all length let_ p1_wets p1_host p1_rooms p1_night p1_wheels p1_turned)) hx hb hK hS 3 rfl rfl g1 rfl dX3_choose_95 (fun H locs hS => ?_)
  refine lv_aload_n hx hb dX3_choose_96 rfl (lv_at hl 1 rfl) ?_
  refine lv_iload hx hb dX3_choose_97 (lv_at hl 4 rfl) ?_
  refine lv_iconst (v := (1 : Int32)) hx hb dX3_choose_99 (by decide) ?_
  refine lv_iadd hx hb dX3_choose_100 ?_
  refine s_put (ws' := (wd_X3_choose cI cB cZ a_this a_best a_likely a_places a_p1 a_p1_wets a_p1_guests a_p1_sights a_p1_remarks a_p1_marks a_p1_past best likely (upd places (Int32.toNatClampNeg l4) l6) all (l4 + (1 : Int32)) let_ p1_wets p1_host p1_rooms p1_night p1_wheels p1_turned)) (C := RX3) (T := TX3) (N := 6) hx hb hts inX3 tyX3 tyX3_ok nmX3 hown hK hS 0 rfl rfl 4 (by decide) (hts (.fieldLink RX3 68 "InnTurned$Lineup" "length" "I") (List.mem_of_getElem? (i := 1) rfl)) rfl rfl rfl rfl (Nat.le_of_ble_eq_true rfl) rfl dX3_choose_101 (fun H locs hS => ?_)
  refine lv_goto (tgt := 113) hx hb dX3_choose_104 (by decide) ?_
  exact w_X3_choose_b113 C0 hend k_b12 hk_b12 (upd places (Int32.toNatClampNeg l4) l6) (l4 + (1 : Int32)) (l2 ||| ((1 : Int32) <<< (l6 &&& 31))) l3 l4 _ _ _ h hS (lv_sub hl [1, 2, 0, 3, 4] rfl)
def f_X3_choose_b30 (k_b12 : (Nat → Int32) → Int32 → Int32 → Int32 → Int32 → Option ((Nat → Int32) × Int32))  (best : (Nat → Int32)) (likely : (Nat → Int32)) (all : Int32) (let_ : Int32) (p1_wets : (Nat → Int32)) (p1_host : Int32) (p1_night : Int32) (p1_wheels : Int32) : Nat → (Nat → Int32) → Int32 → Int32 → Int32 → Int32 → Int32 → Int32 → Option ((Nat → Int32) × Int32)
  | 0, _, _, _, _, _, _, _ => none
  | fu + 1, places, length, l2, l3, l4, l5, l6 => (if (7 : Int32) ≤ l6 then f_X3_choose_b113 k_b12 best likely all let_ p1_wets p1_host p1_night p1_wheels places length l2 l3 l4 else ((f_X3_waits all l6 l2).bind fun q3 => (if q3 = 0 then f_X3_choose_b107 k_b12 (f_X3_choose_b30 k_b12 best likely all let_ p1_wets p1_host p1_night p1_wheels fu) best likely all let_ p1_wets p1_host p1_night p1_wheels places length l2 l3 l4 l5 l6 else ((f_X3_gain best likely l6 l2 l5).bind fun q5 => (if (l3 + q5) < let_ then f_X3_choose_b107 k_b12 (f_X3_choose_b30 k_b12 best likely all let_ p1_wets p1_host p1_night p1_wheels fu) best likely all let_ p1_wets p1_host p1_night p1_wheels places length l2 l3 l4 l5 l6 else (if ¬ (l6 < 0 ∨ 7 ≤ (Int32.toNatClampNeg l6)) then (if l5 < (likely (Int32.toNatClampNeg l6)) then f_X3_choose_b80 k_b12 best likely all let_ p1_wets p1_host p1_night p1_wheels places length l2 l3 l4 l6 else f_X3_choose_b80 k_b12 best likely all let_ p1_wets p1_host p1_night p1_wheels places length l2 (l3 + (1 : Int32)) l4 l6) else none))))))
set_option maxHeartbeats 4000000 in
set_option maxRecDepth 100000 in
theorem w_X3_choose_b30 {p : Program} {l : Launch} {e : Env} {s : State} {m : MethodId} {args : Array Value} {below : List Frame} {meth : Method} {c : Code} {A : Nat → Prop} {Q : State → Prop} {D : va_G} {cI cB cZ : ClassId} {a_this a_best a_likely a_places a_p1 a_p1_wets a_p1_guests a_p1_sights a_p1_remarks a_p1_marks a_p1_past : Nat} {best : (Nat → Int32)} {likely : (Nat → Int32)} {all : Int32} {let_ : Int32} {p1_wets : (Nat → Int32)} {p1_host : Int32} {p1_rooms : Int32} {p1_night : Int32} {p1_wheels : Int32} {p1_turned : Int32} (C0 : Cx p s m args c cX3_choose 7 RX3 wsX3_choose D (s_tys cI cB cZ) A) {rv : (Nat → Int32) × Int32} (hend : ∀ (pc : Nat) (H : Heap) (locs : List Loc) (ls : Array Slot), decode cX3_choose pc = .ok (.return_, 1) → sS D vwCl A s.heap (wd_X3_choose cI cB cZ a_this a_best a_likely a_places a_p1 a_p1_wets a_p1_guests a_p1_sights a_p1_remarks a_p1_marks a_p1_past best likely rv.1 all rv.2 let_ p1_wets p1_host p1_rooms p1_night p1_wheels p1_turned) H locs → W p l e rm_X3_choose s m args below meth c H locs 0 0 Q (F0 m pc ls [])) (k_b12 : (Nat → Int32) → Int32 → Int32 → Int32 → Int32 → Option ((Nat → Int32) × Int32)) (hk_b12 : ∀ (places : (Nat → Int32)) (length : Int32) (l2 : Int32) (l3 : Int32) (l4 : Int32) (H : Heap) (locs : List Loc) (ls : Array Slot), k_b12 places length l2 l3 l4 = some rv → sS D vwCl A s.heap (wd_X3_choose cI cB cZ a_this a_best a_likely a_places a_p1 a_p1_wets a_p1_guests a_p1_sights a_p1_remarks a_p1_marks a_p1_past best likely places all length let_ p1_wets p1_host p1_rooms p1_night p1_wheels p1_turned) H locs → lv_has ls 7 [(0, .ref a_this), (1, .ref a_p1), (2, .int l2), (3, .int l3), (4, .int l4)] → W p l e rm_X3_choose s m args below meth c H locs 0 0 Q (F0 m 12 ls [])) : ∀ (fu : Nat) (places : (Nat → Int32)) (length : Int32) (l2 : Int32) (l3 : Int32) (l4 : Int32) (l5 : Int32) (l6 : Int32) (H : Heap) (locs : List Loc) (ls : Array Slot), f_X3_choose_b30 k_b12 best likely all let_ p1_wets p1_host p1_night p1_wheels fu places length l2 l3 l4 l5 l6 = some rv → sS D vwCl A s.heap (wd_X3_choose cI cB cZ a_this a_best a_likely a_places a_p1 a_p1_wets a_p1_guests a_p1_sights a_p1_remarks a_p1_marks a_p1_past best likely places all length let_ p1_wets p1_host p1_rooms p1_night p1_wheels p1_turned) H locs → lv_has ls 7 [(0, .ref a_this), (1, .ref a_p1), (2, .int l2), (3, .int l3), (4, .int l4), (5, .int l5), (6, .int l6)] → W p l e rm_X3_choose s m args below meth c H locs 0 0 Q (F0 m 30 ls []) := by
  obtain ⟨hx, hb, hml, hown, hts, hK, hA⟩ := id C0
  have inX3 : ∀ w ∈ u_ws RX3 TX3 6, w ∈ wsX3_choose := inX3_X3_choose
  intro fu
  induction fu with
  | zero => intro places length l2 l3 l4 l5 l6 H locs ls h; cases h
  | succ fu ih =>
    intro places length l2 l3 l4 l5 l6 H locs ls h hS hl
    rw [f_X3_choose_b30] at h
    refine lv_iload hx hb dX3_choose_30 (lv_at hl 6 rfl) ?_
    refine lv_bipush (v := (7 : Int32)) hx hb dX3_choose_32 (by decide) ?_
    refine lv_icmp_ge (tgt := 113) hx hb dX3_choose_34 (by decide) (fun c2 => ?_) (fun c2 => ?_)
    · replace h := s_yes c2 h
      exact w_X3_choose_b113 C0 hend k_b12 hk_b12 places length l2 l3 l4 _ _ _ h hS (lv_sub hl [0, 1, 2, 3, 4] rfl)
    replace h := s_no c2 h
    refine lv_aload_n hx hb dX3_choose_37 rfl (lv_at hl 0 rfl) ?_
    refine lv_iload hx hb dX3_choose_38 (lv_at hl 6 rfl) ?_
    refine lv_iload_n hx hb dX3_choose_40 rfl (lv_at hl 2 rfl) ?_
    obtain ⟨q3, hq3, h⟩ := s_bind h
    refine u_calliV (r := q3) (As := [.int l6, .int l2]) (rest := []) (wc := (wd_X3_waits cI cB cZ a_this a_best a_likely a_places all length let_)) hx hb hml hown hts hK hA hl hS (c_X3_waits l D cI cB cZ a_this a_best a_likely a_places all length let_ l6 l2 _ _ hq3) (cwV 2 hts gX3_choose_X3_waits rfl rfl rfl (by decide +kernel) ⟨Nat.le_of_ble_eq_true rfl, Nat.le_of_ble_eq_true rfl⟩) 0 rfl rfl [0] rfl rfl rfl rfl (Nat.le_of_ble_eq_true rfl) dX3_choose_41 (fun H locs hS => ?_)
    refine lv_if_eq (tgt := 107) hx hb dX3_choose_44 (by decide) (fun c4 => ?_) (fun c4 => ?_)
    · replace h := s_yes c4 h
      exact w_X3_choose_b107 C0 hend k_b12 hk_b12 (f_X3_choose_b30 k_b12 best likely all let_ p1_wets p1_host p1_night p1_wheels fu) ih places length l2 l3 l4 l5 l6 _ _ _ h hS (lv_sub hl [0, 1, 2, 3, 4, 5, 6] rfl)
    replace h := s_no c4 h
    refine lv_iload_n hx hb dX3_choose_47 rfl (lv_at hl 3 rfl) ?_
    refine lv_aload_n hx hb dX3_choose_48 rfl (lv_at hl 0 rfl) ?_
    refine lv_iload hx hb dX3_choose_49 (lv_at hl 6 rfl) ?_
    refine lv_iload_n hx hb dX3_choose_51 rfl (lv_at hl 2 rfl) ?_
    refine lv_iload hx hb dX3_choose_52 (lv_at hl 5 rfl) ?_
    obtain ⟨q5, hq5, h⟩ := s_bind h
    refine u_calliV (r := q5) (As := [.int l6, .int l2, .int l5]) (rest := [.int l3]) (wc := (wd_X3_gain cI cB cZ a_this a_best a_likely a_places best likely all length let_)) hx hb hml hown hts hK hA hl hS (c_X3_gain l D cI cB cZ a_this a_best a_likely a_places best likely all length let_ l6 l2 l5 _ _ hq5) (cwV 3 hts gX3_choose_X3_gain rfl rfl rfl (by decide +kernel) ⟨Nat.le_of_ble_eq_true rfl, Nat.le_of_ble_eq_true rfl⟩) 0 rfl rfl [0, 1, 2] rfl rfl rfl rfl (Nat.le_of_ble_eq_true rfl) dX3_choose_54 (fun H locs hS => ?_)
    refine lv_iadd hx hb dX3_choose_57 ?_
    refine lv_aload_n hx hb dX3_choose_58 rfl (lv_at hl 0 rfl) ?_
    refine s_get (C := RX3) (T := TX3) (N := 6) hx hb hts inX3 hown hK hS 0 rfl rfl 5 (by decide) (hts (.fieldLink RX3 61 "InnTurned$Lineup" "let" "I") (List.mem_of_getElem? (i := 2) rfl)) rfl rfl dX3_choose_59 ?_
    refine lv_icmp_lt (tgt := 107) hx hb dX3_choose_62 (by decide) (fun c6 => ?_) (fun c6 => ?_)
    · replace h := s_yes c6 h
      exact w_X3_choose_b107 C0 hend k_b12 hk_b12 (f_X3_choose_b30 k_b12 best likely all let_ p1_wets p1_host p1_night p1_wheels fu) ih places length l2 l3 l4 l5 l6 _ _ _ h hS (lv_sub hl [0, 1, 2, 3, 4, 5, 6] rfl)
    replace h := s_no c6 h
    refine lv_aload_n hx hb dX3_choose_65 rfl (lv_at hl 0 rfl) ?_
    refine s_get (C := RX3) (T := TX3) (N := 6) hx hb hts inX3 hown hK hS 0 rfl rfl 1 (by decide) (hts (.fieldLink RX3 15 "InnTurned$Lineup" "likely" "[I") (List.mem_of_getElem? (i := 3) rfl)) rfl rfl dX3_choose_66 ?_
    refine lv_iload hx hb dX3_choose_69 (lv_at hl 6 rfl) ?_
    obtain ⟨g7, h⟩ := s_guard h
    refine s_iald hx hb hK hS 2 rfl rfl g7 dX3_choose_71 ?_
    refine lv_iload hx hb dX3_choose_72 (lv_at hl 5 rfl) ?_
    refine lv_icmp_gt (tgt := 80) hx hb dX3_choose_74 (by decide) (fun c8 => ?_) (fun c8 => ?_)
    · replace h := s_yes c8 h
      exact w_X3_choose_b80 C0 hend k_b12 hk_b12 places length l2 l3 l4 l6 _ _ _ h hS (lv_sub hl [0, 1, 2, 3, 4, 6] rfl)
    replace h := s_no c8 h
    refine lv_iinc (v := (l3 + (1 : Int32))) (lv' := [(3, .int (l3 + (1 : Int32))), (0, .ref a_this), (1, .ref a_p1), (2, .int l2), (4, .int l4), (5, .int l5), (6, .int l6)]) hx hb dX3_choose_77 hl (k := 3) rfl rfl (by decide) rfl (fun ls hl => ?_)
    exact w_X3_choose_b80 C0 hend k_b12 hk_b12 places length l2 (l3 + (1 : Int32)) l4 l6 _ _ _ h hS (lv_sub hl [1, 2, 3, 0, 4, 6] rfl)
def f_X3_choose_b12  (best : (Nat → Int32)) (likely : (Nat → Int32)) (all : Int32) (let_ : Int32) (p1_wets : (Nat → Int32)) (p1_host : Int32) (p1_night : Int32) (p1_wheels : Int32) : Nat → (Nat → Int32) → Int32 → Int32 → Int32 → Int32 → Option ((Nat → Int32) × Int32)
  | 0, _, _, _, _, _ => none
  | fu + 1, places, length, l2, l3, l4 => (if (7 : Int32) ≤ l4 then some (places, length) else ((f_X3_letsBehind p1_wets p1_host p1_night p1_wheels l2).bind fun q10 => f_X3_choose_b30 (f_X3_choose_b12 best likely all let_ p1_wets p1_host p1_night p1_wheels fu) best likely all let_ p1_wets p1_host p1_night p1_wheels s_fuel places length l2 l3 l4 q10 (0 : Int32)))
set_option maxHeartbeats 4000000 in
set_option maxRecDepth 100000 in
theorem w_X3_choose_b12 {p : Program} {l : Launch} {e : Env} {s : State} {m : MethodId} {args : Array Value} {below : List Frame} {meth : Method} {c : Code} {A : Nat → Prop} {Q : State → Prop} {D : va_G} {cI cB cZ : ClassId} {a_this a_best a_likely a_places a_p1 a_p1_wets a_p1_guests a_p1_sights a_p1_remarks a_p1_marks a_p1_past : Nat} {best : (Nat → Int32)} {likely : (Nat → Int32)} {all : Int32} {let_ : Int32} {p1_wets : (Nat → Int32)} {p1_host : Int32} {p1_rooms : Int32} {p1_night : Int32} {p1_wheels : Int32} {p1_turned : Int32} (C0 : Cx p s m args c cX3_choose 7 RX3 wsX3_choose D (s_tys cI cB cZ) A) {rv : (Nat → Int32) × Int32} (hend : ∀ (pc : Nat) (H : Heap) (locs : List Loc) (ls : Array Slot), decode cX3_choose pc = .ok (.return_, 1) → sS D vwCl A s.heap (wd_X3_choose cI cB cZ a_this a_best a_likely a_places a_p1 a_p1_wets a_p1_guests a_p1_sights a_p1_remarks a_p1_marks a_p1_past best likely rv.1 all rv.2 let_ p1_wets p1_host p1_rooms p1_night p1_wheels p1_turned) H locs → W p l e rm_X3_choose s m args below meth c H locs 0 0 Q (F0 m pc ls [])) : ∀ (fu : Nat) (places : (Nat → Int32)) (length : Int32) (l2 : Int32) (l3 : Int32) (l4 : Int32) (H : Heap) (locs : List Loc) (ls : Array Slot), f_X3_choose_b12 best likely all let_ p1_wets p1_host p1_night p1_wheels fu places length l2 l3 l4 = some rv → sS D vwCl A s.heap (wd_X3_choose cI cB cZ a_this a_best a_likely a_places a_p1 a_p1_wets a_p1_guests a_p1_sights a_p1_remarks a_p1_marks a_p1_past best likely places all length let_ p1_wets p1_host p1_rooms p1_night p1_wheels p1_turned) H locs → lv_has ls 7 [(0, .ref a_this), (1, .ref a_p1), (2, .int l2), (3, .int l3), (4, .int l4)] → W p l e rm_X3_choose s m args below meth c H locs 0 0 Q (F0 m 12 ls []) := by
  obtain ⟨hx, hb, hml, hown, hts, hK, hA⟩ := id C0
  have inX3 : ∀ w ∈ u_ws RX3 TX3 6, w ∈ wsX3_choose := inX3_X3_choose
  intro fu
  induction fu with
  | zero => intro places length l2 l3 l4 H locs ls h; cases h
  | succ fu ih =>
    intro places length l2 l3 l4 H locs ls h hS hl
    rw [f_X3_choose_b12] at h
    refine lv_iload hx hb dX3_choose_12 (lv_at hl 4 rfl) ?_
    refine lv_bipush (v := (7 : Int32)) hx hb dX3_choose_14 (by decide) ?_
    refine lv_icmp_ge (tgt := 119) hx hb dX3_choose_16 (by decide) (fun c9 => ?_) (fun c9 => ?_)
    · replace h := s_yes c9 h
      obtain rfl := Option.some.inj h
      exact hend _ _ _ _ dX3_choose_119 hS
    replace h := s_no c9 h
    refine lv_aload_n hx hb dX3_choose_19 rfl (lv_at hl 0 rfl) ?_
    refine lv_aload_n hx hb dX3_choose_20 rfl (lv_at hl 1 rfl) ?_
    refine lv_iload_n hx hb dX3_choose_21 rfl (lv_at hl 2 rfl) ?_
    obtain ⟨q10, hq10, h⟩ := s_bind h
    refine u_calliV (r := q10) (As := [.ref a_p1, .int l2]) (rest := []) (wc := (wd_X3_letsBehind cI cB cZ a_this a_p1 a_p1_wets a_p1_guests a_p1_sights a_p1_remarks a_p1_marks a_p1_past p1_wets p1_host p1_rooms p1_night p1_wheels p1_turned)) hx hb hml hown hts hK hA hl hS (c_X3_letsBehind l D cI cB cZ a_this a_p1 a_p1_wets a_p1_guests a_p1_sights a_p1_remarks a_p1_marks a_p1_past p1_wets p1_host p1_rooms p1_night p1_wheels p1_turned l2 _ _ hq10) (cwV 2 hts gX3_choose_X3_letsBehind rfl rfl rfl (by decide +kernel) ⟨Nat.le_of_ble_eq_true rfl, Nat.le_of_ble_eq_true rfl⟩) 0 rfl rfl [4, 5] rfl rfl rfl rfl (Nat.le_of_ble_eq_true rfl) dX3_choose_22 (fun H locs hS => ?_)
    refine lv_istore (lv' := [(5, .int q10), (0, .ref a_this), (1, .ref a_p1), (2, .int l2), (3, .int l3), (4, .int l4)]) hx hb dX3_choose_25 hl (by decide) rfl (fun ls hl => ?_)
    refine lv_iconst (v := (0 : Int32)) hx hb dX3_choose_27 (by decide) ?_
    refine lv_istore (lv' := [(6, .int (0 : Int32)), (5, .int q10), (0, .ref a_this), (1, .ref a_p1), (2, .int l2), (3, .int l3), (4, .int l4)]) hx hb dX3_choose_28 hl (by decide) rfl (fun ls hl => ?_)
    exact w_X3_choose_b30 C0 hend (f_X3_choose_b12 best likely all let_ p1_wets p1_host p1_night p1_wheels fu) ih s_fuel places length l2 l3 l4 q10 (0 : Int32) _ _ _ h hS (lv_sub hl [2, 3, 4, 5, 6, 1, 0] rfl)
def f_X3_choose  (best : (Nat → Int32)) (likely : (Nat → Int32)) (all : Int32) (let_ : Int32) (p1_wets : (Nat → Int32)) (p1_host : Int32) (p1_night : Int32) (p1_wheels : Int32) (places : (Nat → Int32)) (length : Int32) : Option ((Nat → Int32) × Int32) := f_X3_choose_b12  best likely all let_ p1_wets p1_host p1_night p1_wheels s_fuel places (0 : Int32) (0 : Int32) (0 : Int32) (0 : Int32)
set_option maxHeartbeats 4000000 in
set_option maxRecDepth 100000 in
theorem c_X3_choose (l : Launch) (D : va_G) (cI cB cZ : ClassId) (a_this : Nat) (a_best : Nat) (a_likely : Nat) (a_places : Nat) (a_p1 : Nat) (a_p1_wets : Nat) (a_p1_guests : Nat) (a_p1_sights : Nat) (a_p1_remarks : Nat) (a_p1_marks : Nat) (a_p1_past : Nat) (best : (Nat → Int32)) (likely : (Nat → Int32)) (places : (Nat → Int32)) (all : Int32) (length : Int32) (let_ : Int32) (p1_wets : (Nat → Int32)) (p1_host : Int32) (p1_rooms : Int32) (p1_night : Int32) (p1_wheels : Int32) (p1_turned : Int32) (rv : (Nat → Int32) × Int32) (sz : Nat) (hf : f_X3_choose best likely all let_ p1_wets p1_host p1_night p1_wheels places length = some rv) : Met l yX3_choose wsX3_choose rm_X3_choose (sPc D vwCl (s_tys cI cB cZ) [.ref a_this, .ref a_p1] (wd_X3_choose cI cB cZ a_this a_best a_likely a_places a_p1 a_p1_wets a_p1_guests a_p1_sights a_p1_remarks a_p1_marks a_p1_past best likely places all length let_ p1_wets p1_host p1_rooms p1_night p1_wheels p1_turned) sz) (sQv D vwCl (wd_X3_choose cI cB cZ a_this a_best a_likely a_places a_p1 a_p1_wets a_p1_guests a_p1_sights a_p1_remarks a_p1_marks a_p1_past best likely places all length let_ p1_wets p1_host p1_rooms p1_night p1_wheels p1_turned) (wd_X3_choose cI cB cZ a_this a_best a_likely a_places a_p1 a_p1_wets a_p1_guests a_p1_sights a_p1_remarks a_p1_marks a_p1_past best likely rv.1 all rv.2 let_ p1_wets p1_host p1_rooms p1_night p1_wheels p1_turned) sz) 0 0 (va_A (wd_X3_choose cI cB cZ a_this a_best a_likely a_places a_p1 a_p1_wets a_p1_guests a_p1_sights a_p1_remarks a_p1_marks a_p1_past best likely places all length let_ p1_wets p1_host p1_rooms p1_night p1_wheels p1_turned) sz) := by
  refine s_enter_v (cc := cX3_choose) (nL := 7) (by decide) rfl (Nat.le_of_ble_eq_true rfl) ?_
  intro p e s m args below meth c A Q C0 hend ls hl hS
  have h := hf
  clear hf
  replace hl : lv_has ls 7 [(0, .ref a_this), (1, .ref a_p1)] := hl
  unfold f_X3_choose at h
  obtain ⟨hx, hb, hml, hown, hts, hK, hA⟩ := id C0
  have inX3 : ∀ w ∈ u_ws RX3 TX3 6, w ∈ wsX3_choose := inX3_X3_choose
  refine lv_iconst (v := (0 : Int32)) hx hb dX3_choose_0 (by decide) ?_
  refine lv_istore_n (lv' := [(2, .int (0 : Int32)), (0, .ref a_this), (1, .ref a_p1)]) hx hb dX3_choose_1 rfl hl (by decide) rfl (fun ls hl => ?_)
  refine lv_iconst (v := (0 : Int32)) hx hb dX3_choose_2 (by decide) ?_
  refine lv_istore_n (lv' := [(3, .int (0 : Int32)), (2, .int (0 : Int32)), (0, .ref a_this), (1, .ref a_p1)]) hx hb dX3_choose_3 rfl hl (by decide) rfl (fun ls hl => ?_)
  refine lv_aload_n hx hb dX3_choose_4 rfl (lv_at hl 2 rfl) ?_
  refine lv_iconst (v := (0 : Int32)) hx hb dX3_choose_5 (by decide) ?_
  refine s_put (ws' := (wd_X3_choose cI cB cZ a_this a_best a_likely a_places a_p1 a_p1_wets a_p1_guests a_p1_sights a_p1_remarks a_p1_marks a_p1_past best likely places all (0 : Int32) let_ p1_wets p1_host p1_rooms p1_night p1_wheels p1_turned)) (C := RX3) (T := TX3) (N := 6) hx hb hts inX3 tyX3 tyX3_ok nmX3 hown hK hS 0 rfl rfl 4 (by decide) (hts (.fieldLink RX3 68 "InnTurned$Lineup" "length" "I") (List.mem_of_getElem? (i := 1) rfl)) rfl rfl rfl rfl (Nat.le_of_ble_eq_true rfl) rfl dX3_choose_6 (fun H locs hS => ?_)
  refine lv_iconst (v := (0 : Int32)) hx hb dX3_choose_9 (by decide) ?_
  refine lv_istore (lv' := [(4, .int (0 : Int32)), (3, .int (0 : Int32)), (2, .int (0 : Int32)), (0, .ref a_this), (1, .ref a_p1)]) hx hb dX3_choose_10 hl (by decide) rfl (fun ls hl => ?_)
  exact w_X3_choose_b12 C0 hend  s_fuel places (0 : Int32) (0 : Int32) (0 : Int32) (0 : Int32) _ _ _ h hS (lv_sub hl [3, 4, 2, 1, 0] rfl)

