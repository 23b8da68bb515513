-- InnTurned.of(II)I
def wd_X8_of (cI cB cZ : ClassId) (a_this : Nat) (a_house : Nat) (a_house_wets : Nat) (a_house_guests : Nat) (a_house_guests_cells : Nat) (a_house_sights : Nat) (a_house_remarks : Nat) (a_house_marks : Nat) (a_house_past : Nat) (a_spare : Nat) (a_image0 : Nat) (a_image1 : Nat) (a_script : Nat) (a_lineup : Nat) (a_wits : Nat)  (house_guests_cells : (Nat → Int32)) (house_guests_rows : Int32) (house_host : Int32) (house_rooms : Int32) (house_night : Int32) (house_wheels : Int32) (house_turned : Int32) (kept0 : Int32) (kept1 : Int32) (above : Int32) (below_ : Int32) (bads : Int32) (nos : Int32) (fulls : Int32) : va_W := [(a_this, .inr (5, [.ref a_house, .ref a_spare, .ref a_image0, .ref a_image1, .ref a_script, .ref a_lineup, .ref a_wits, .int kept0, .int kept1, .int above, .int below_, .int bads, .int nos, .int fulls])), (a_house, .inr (0, [.ref a_house_wets, .ref a_house_guests, .ref a_house_sights, .ref a_house_remarks, .ref a_house_marks, .ref a_house_past, .int house_host, .int house_rooms, .int house_night, .int house_wheels, .int house_turned])), (a_house_guests, .inr (3, [.int 4, .int 7, .ref a_house_guests_cells, .int house_guests_rows])), (a_house_guests_cells, .inl (cI, 28, .inl house_guests_cells))]
abbrev rm_X8_of : Room := { frames := 2, cells := 0, slots := 0, locals := 47 }
set_option maxRecDepth 20000 in
theorem inX1_X8_of : ∀ w ∈ u_ws RX1 TX1 11, w ∈ wsX8_of := by decide +kernel
set_option maxRecDepth 20000 in
theorem inX8_X8_of : ∀ w ∈ u_ws RX8 TX8 14, w ∈ wsX8_of := by decide +kernel
def f_X8_of_b20  (house_guests_cells : (Nat → Int32)) (house_guests_rows : Int32) (house_night : Int32) (bads : Int32) : Option (Int32 × Int32) := ((f_X8_bad bads).bind fun q1 => some (q1.1, q1.2))
set_option maxHeartbeats 4000000 in
set_option maxRecDepth 100000 in
theorem w_X8_of_b20 {p : Program} {l : Launch} {e : Env} {s : State} {m : MethodId} {args : Array Value} {below : List Frame} {meth : Method} {c : Code} {A : Nat → Prop} {Q : State → Prop} {D : va_G} {cI cB cZ : ClassId} {a_this a_house a_house_wets a_house_guests a_house_guests_cells a_house_sights a_house_remarks a_house_marks a_house_past a_spare a_image0 a_image1 a_script a_lineup a_wits : Nat} {house_guests_cells : (Nat → Int32)} {house_guests_rows : Int32} {house_host : Int32} {house_rooms : Int32} {house_night : Int32} {house_wheels : Int32} {house_turned : Int32} {kept0 : Int32} {kept1 : Int32} {above : Int32} {below_ : Int32} {nos : Int32} {fulls : Int32} (C0 : Cx p s m args c cX8_of 3 RX8 wsX8_of D (s_tys cI cB cZ) A) {rv : Int32 × Int32} (hend : ∀ (pc : Nat) (H : Heap) (locs : List Loc) (ls : Array Slot), decode cX8_of pc = .ok (.ireturn, 1) → sS D vwCl A s.heap (wd_X8_of cI cB cZ a_this a_house a_house_wets a_house_guests a_house_guests_cells a_house_sights a_house_remarks a_house_marks a_house_past a_spare a_image0 a_image1 a_script a_lineup a_wits house_guests_cells house_guests_rows house_host house_rooms house_night house_wheels house_turned kept0 kept1 above below_ rv.2 nos fulls) H locs → W p l e rm_X8_of s m args below meth c H locs 0 0 Q (F0 m pc ls [.int rv.1])) : ∀ (bads : Int32) (H : Heap) (locs : List Loc) (ls : Array Slot), f_X8_of_b20 house_guests_cells house_guests_rows house_night bads = some rv → sS D vwCl A s.heap (wd_X8_of cI cB cZ a_this a_house a_house_wets a_house_guests a_house_guests_cells a_house_sights a_house_remarks a_house_marks a_house_past a_spare a_image0 a_image1 a_script a_lineup a_wits house_guests_cells house_guests_rows house_host house_rooms house_night house_wheels house_turned kept0 kept1 above below_ bads nos fulls) H locs → lv_has ls 3 [(0, .ref a_this)] → W p l e rm_X8_of s m args below meth c H locs 0 0 Q (F0 m 20 ls []) := by
  obtain ⟨hx, hb, hml, hown, hts, hK, hA⟩ := id C0
  have inX1 : ∀ w ∈ u_ws RX1 TX1 11, w ∈ wsX8_of := inX1_X8_of
  have inX8 : ∀ w ∈ u_ws RX8 TX8 14, w ∈ wsX8_of := inX8_X8_of
  intro bads H locs ls h hS hl
  unfold f_X8_of_b20 at h
  refine lv_aload_n hx hb dX8_of_20 rfl (lv_at hl 0 rfl) ?_
  obtain ⟨q1, hq1, h⟩ := s_bind h
  refine r_calliV (r := q1.1) (As := []) (rest := []) (wc := (wd_X8_bad cI cB cZ a_this a_house a_spare a_image0 a_image1 a_script a_lineup a_wits kept0 kept1 above below_ bads nos fulls)) (w1 := (wd_X8_bad cI cB cZ a_this a_house a_spare a_image0 a_image1 a_script a_lineup a_wits kept0 kept1 above below_ q1.2 nos fulls)) (ws' := (wd_X8_of cI cB cZ a_this a_house a_house_wets a_house_guests a_house_guests_cells a_house_sights a_house_remarks a_house_marks a_house_past a_spare a_image0 a_image1 a_script a_lineup a_wits house_guests_cells house_guests_rows house_host house_rooms house_night house_wheels house_turned kept0 kept1 above below_ q1.2 nos fulls)) hx hb hml hown hts hK hA hl hS (c_X8_bad l D cI cB cZ a_this a_house a_spare a_image0 a_image1 a_script a_lineup a_wits kept0 kept1 above below_ bads nos fulls _ _ hq1) (cwV 0 hts gX8_of_X8_bad rfl rfl rfl (by decide +kernel) ⟨Nat.le_of_ble_eq_true rfl, Nat.le_of_ble_eq_true rfl⟩) 0 rfl rfl [0] rfl rfl rfl [.inr 0, .inl 1, .inl 2, .inl 3] rfl rfl rfl rfl (Nat.le_of_ble_eq_true rfl) dX8_of_21 (fun H locs hS => ?_)
  obtain rfl := Option.some.inj h
  exact hend _ _ _ _ dX8_of_24 hS
def f_X8_of  (house_guests_cells : (Nat → Int32)) (house_guests_rows : Int32) (house_night : Int32) (bads : Int32) (p1 : Int32) (p2 : Int32) : Option (Int32 × Int32) := ((f_X1_isThere house_guests_rows p1).bind fun q2 => (if q2 = 0 then f_X8_of_b20  house_guests_cells house_guests_rows house_night bads else ((f_X8_within p2 (0 : Int32) (4 : Int32)).bind fun q4 => (if q4 = 0 then f_X8_of_b20  house_guests_cells house_guests_rows house_night bads else (if p2 = (4 : Int32) then ((f_X1_likelyNow house_guests_cells house_guests_rows house_night p1).bind fun q8 => some (q8, bads)) else ((f_X5_cell 28 (4 : Int32) house_guests_cells house_guests_rows p1 p2).bind fun q7 => some (q7, bads)))))))
set_option maxHeartbeats 4000000 in
set_option maxRecDepth 100000 in
theorem c_X8_of (l : Launch) (D : va_G) (cI cB cZ : ClassId) (a_this : Nat) (a_house : Nat) (a_house_wets : Nat) (a_house_guests : Nat) (a_house_guests_cells : Nat) (a_house_sights : Nat) (a_house_remarks : Nat) (a_house_marks : Nat) (a_house_past : Nat) (a_spare : Nat) (a_image0 : Nat) (a_image1 : Nat) (a_script : Nat) (a_lineup : Nat) (a_wits : Nat) (house_guests_cells : (Nat → Int32)) (house_guests_rows : Int32) (house_host : Int32) (house_rooms : Int32) (house_night : Int32) (house_wheels : Int32) (house_turned : Int32) (kept0 : Int32) (kept1 : Int32) (above : Int32) (below_ : Int32) (bads : Int32) (nos : Int32) (fulls : Int32) (p1 : Int32) (p2 : Int32) (rv : Int32 × Int32) (sz : Nat) (hf : f_X8_of house_guests_cells house_guests_rows house_night bads p1 p2 = some rv) : Met l yX8_of wsX8_of rm_X8_of (sPc D vwCl (s_tys cI cB cZ) [.ref a_this, .int p1, .int p2] (wd_X8_of cI cB cZ a_this a_house a_house_wets a_house_guests a_house_guests_cells a_house_sights a_house_remarks a_house_marks a_house_past a_spare a_image0 a_image1 a_script a_lineup a_wits house_guests_cells house_guests_rows house_host house_rooms house_night house_wheels house_turned kept0 kept1 above below_ bads nos fulls) sz) (sQi D vwCl (wd_X8_of cI cB cZ a_this a_house a_house_wets a_house_guests a_house_guests_cells a_house_sights a_house_remarks a_house_marks a_house_past a_spare a_image0 a_image1 a_script a_lineup a_wits house_guests_cells house_guests_rows house_host house_rooms house_night house_wheels house_turned kept0 kept1 above below_ bads nos fulls) (wd_X8_of cI cB cZ a_this a_house a_house_wets a_house_guests a_house_guests_cells a_house_sights a_house_remarks a_house_marks a_house_past a_spare a_image0 a_image1 a_script a_lineup a_wits house_guests_cells house_guests_rows house_host house_rooms house_night house_wheels house_turned kept0 kept1 above below_ rv.2 nos fulls) sz rv.1) 0 0 (va_A (wd_X8_of cI cB cZ a_this a_house a_house_wets a_house_guests a_house_guests_cells a_house_sights a_house_remarks a_house_marks a_house_past a_spare a_image0 a_image1 a_script a_lineup a_wits house_guests_cells house_guests_rows house_host house_rooms house_night house_wheels house_turned kept0 kept1 above below_ bads nos fulls) sz) := by
  refine s_enter_n (cc := cX8_of) (nL := 3) (r := rv.1) (by decide) rfl (Nat.le_of_ble_eq_true rfl) ?_
  intro p e s m args below meth c A Q C0 hend ls hl hS
  have h := hf
  clear hf
  replace hl : lv_has ls 3 [(0, .ref a_this), (1, .int p1), (2, .int p2)] := hl
  unfold f_X8_of at h
  obtain ⟨hx, hb, hml, hown, hts, hK, hA⟩ := id C0
  have inX1 : ∀ w ∈ u_ws RX1 TX1 11, w ∈ wsX8_of := inX1_X8_of
  have inX8 : ∀ w ∈ u_ws RX8 TX8 14, w ∈ wsX8_of := inX8_X8_of
  refine lv_aload_n hx hb dX8_of_0 rfl (lv_at hl 0 rfl) ?_
  refine s_get (C := RX8) (T := TX8) (N := 14) hx hb hts inX8 hown hK hS 0 rfl rfl 0 (by decide) (hts (.fieldLink RX8 10 "InnTurned" "house" "LInnTurned$House;") (List.mem_of_getElem? (i := 1) rfl)) rfl rfl dX8_of_1 ?_
  refine lv_iload_n hx hb dX8_of_4 rfl (lv_at hl 1 rfl) ?_
  obtain ⟨q2, hq2, h⟩ := s_bind h
  refine u_calliV (r := q2) (As := [.int p1]) (rest := []) (wc := (wd_X1_isThere cI cB cZ a_house a_house_wets a_house_guests a_house_guests_cells a_house_sights a_house_remarks a_house_marks a_house_past house_guests_rows house_host house_rooms house_night house_wheels house_turned)) hx hb hml hown hts hK hA hl hS (c_X1_isThere l D cI cB cZ a_house a_house_wets a_house_guests a_house_guests_cells a_house_sights a_house_remarks a_house_marks a_house_past house_guests_rows house_host house_rooms house_night house_wheels house_turned p1 _ _ hq2) (cwV 1 hts gX8_of_X1_isThere rfl rfl rfl (by decide +kernel) ⟨Nat.le_of_ble_eq_true rfl, Nat.le_of_ble_eq_true rfl⟩) 1 rfl rfl [1, 2] rfl rfl rfl rfl (Nat.le_of_ble_eq_true rfl) dX8_of_5 (fun H locs hS => ?_)
  refine lv_if_eq (tgt := 20) hx hb dX8_of_8 (by decide) (fun c3 => ?_) (fun c3 => ?_)
  · replace h := s_yes c3 h
    exact w_X8_of_b20 C0 hend  bads _ _ _ h hS (lv_sub hl [0] rfl)
  replace h := s_no c3 h
  refine lv_iload_n hx hb dX8_of_11 rfl (lv_at hl 2 rfl) ?_
  refine lv_iconst (v := (0 : Int32)) hx hb dX8_of_12 (by decide) ?_
  refine lv_iconst (v := (4 : Int32)) hx hb dX8_of_13 (by decide) ?_
  obtain ⟨q4, hq4, h⟩ := s_bind h
  refine u_calliS (r := q4) (As := [.int p2, .int (0 : Int32), .int (4 : Int32)]) (rest := []) (wc := ([] : va_W)) hx hb hml hown hts hK hA hl hS (c_X8_within l D cI cB cZ p2 (0 : Int32) (4 : Int32) _ _ hq4) (va_cwS 3 hts gX8_of_X8_within rfl rfl rfl (by decide +kernel) ⟨Nat.le_of_ble_eq_true rfl, Nat.le_of_ble_eq_true rfl⟩) [] rfl rfl rfl rfl (Nat.le_of_ble_eq_true rfl) dX8_of_14 (fun H locs hS => ?_)
  refine lv_if_ne (tgt := 25) hx hb dX8_of_17 (by decide) (fun c5 => ?_) (fun c5 => ?_)
  · replace h := s_no c5 h
    refine lv_iload_n hx hb dX8_of_25 rfl (lv_at hl 2 rfl) ?_
    refine lv_iconst (v := (4 : Int32)) hx hb dX8_of_26 (by decide) ?_
    refine lv_icmp_ne (tgt := 41) hx hb dX8_of_27 (by decide) (fun c6 => ?_) (fun c6 => ?_)
    · replace h := s_no c6 h
      refine lv_aload_n hx hb dX8_of_41 rfl (lv_at hl 0 rfl) ?_
      refine s_get (C := RX8) (T := TX8) (N := 14) hx hb hts inX8 hown hK hS 0 rfl rfl 0 (by decide) (hts (.fieldLink RX8 10 "InnTurned" "house" "LInnTurned$House;") (List.mem_of_getElem? (i := 1) rfl)) rfl rfl dX8_of_42 ?_
      refine s_getN (C := RX1) (T := TX1) (N := 11) hx hb hts inX1 hown hK hS 1 rfl rfl 1 (by decide) 7 rfl rfl rfl dX8_of_45 ?_
      refine lv_iload_n hx hb dX8_of_48 rfl (lv_at hl 1 rfl) ?_
      refine lv_iload_n hx hb dX8_of_49 rfl (lv_at hl 2 rfl) ?_
      obtain ⟨q7, hq7, h⟩ := s_bind h
      refine u_calliV (r := q7) (As := [.int p1, .int p2]) (rest := []) (wc := (wd_X5_cell cI cB cZ a_house_guests a_house_guests_cells 28 (4 : Int32) (7 : Int32) house_guests_cells house_guests_rows)) hx hb hml hown hts hK hA hl hS (c_X5_cell l D cI cB cZ a_house_guests a_house_guests_cells 28 (4 : Int32) (7 : Int32) house_guests_cells house_guests_rows p1 p2 _ _ hq7) (cwV 2 hts gX8_of_X5_cell rfl rfl rfl (by decide +kernel) ⟨Nat.le_of_ble_eq_true rfl, Nat.le_of_ble_eq_true rfl⟩) 2 rfl rfl [2, 3] rfl rfl rfl rfl (Nat.le_of_ble_eq_true rfl) dX8_of_50 (fun H locs hS => ?_)
      obtain rfl := Option.some.inj h
      exact hend _ _ _ _ dX8_of_53 hS
    replace h := s_yes c6 h
    refine lv_aload_n hx hb dX8_of_30 rfl (lv_at hl 0 rfl) ?_
    refine s_get (C := RX8) (T := TX8) (N := 14) hx hb hts inX8 hown hK hS 0 rfl rfl 0 (by decide) (hts (.fieldLink RX8 10 "InnTurned" "house" "LInnTurned$House;") (List.mem_of_getElem? (i := 1) rfl)) rfl rfl dX8_of_31 ?_
    refine lv_iload_n hx hb dX8_of_34 rfl (lv_at hl 1 rfl) ?_
    obtain ⟨q8, hq8, h⟩ := s_bind h
    refine u_calliV (r := q8) (As := [.int p1]) (rest := []) (wc := (wd_X1_likelyNow cI cB cZ a_house a_house_wets a_house_guests a_house_guests_cells a_house_sights a_house_remarks a_house_marks a_house_past house_guests_cells house_guests_rows house_host house_rooms house_night house_wheels house_turned)) hx hb hml hown hts hK hA hl hS (c_X1_likelyNow l D cI cB cZ a_house a_house_wets a_house_guests a_house_guests_cells a_house_sights a_house_remarks a_house_marks a_house_past house_guests_cells house_guests_rows house_host house_rooms house_night house_wheels house_turned p1 _ _ hq8) (cwV 1 hts gX8_of_X1_likelyNow rfl rfl rfl (by decide +kernel) ⟨Nat.le_of_ble_eq_true rfl, Nat.le_of_ble_eq_true rfl⟩) 1 rfl rfl [1, 2, 3] rfl rfl rfl rfl (Nat.le_of_ble_eq_true rfl) dX8_of_35 (fun H locs hS => ?_)
    refine lv_goto (tgt := 53) hx hb dX8_of_38 (by decide) ?_
    obtain rfl := Option.some.inj h
    exact hend _ _ _ _ dX8_of_53 hS
  replace h := s_yes c5 h
  exact w_X8_of_b20 C0 hend  bads _ _ _ h hS (lv_sub hl [0] rfl)

-- InnTurned.standing(I)I
def wd_X8_standing (cI cB cZ : ClassId) (a_this : Nat) (a_house : Nat) (a_house_wets : Nat) (a_house_guests : Nat) (a_house_sights : Nat) (a_house_remarks : Nat) (a_house_marks : Nat) (a_house_past : Nat) (a_spare : Nat) (a_image0 : Nat) (a_image1 : Nat) (a_script : Nat) (a_lineup : Nat) (a_wits : Nat)  (house_wets : (Nat → Int32)) (house_host : Int32) (house_rooms : Int32) (house_night : Int32) (house_wheels : Int32) (house_turned : Int32) (kept0 : Int32) (kept1 : Int32) (above : Int32) (below_ : Int32) (bads : Int32) (nos : Int32) (fulls : Int32) : va_W := [(a_this, .inr (5, [.ref a_house, .ref a_spare, .ref a_image0, .ref a_image1, .ref a_script, .ref a_lineup, .ref a_wits, .int kept0, .int kept1, .int above, .int below_, .int bads, .int nos, .int fulls])), (a_house, .inr (0, [.ref a_house_wets, .ref a_house_guests, .ref a_house_sights, .ref a_house_remarks, .ref a_house_marks, .ref a_house_past, .int house_host, .int house_rooms, .int house_night, .int house_wheels, .int house_turned])), (a_house_wets, .inl (cI, 6, .inl house_wets))]
abbrev rm_X8_standing : Room := { frames := 2, cells := 0, slots := 0, locals := 45 }
set_option maxRecDepth 20000 in
theorem inX1_X8_standing : ∀ w ∈ u_ws RX1 TX1 11, w ∈ wsX8_standing := by decide +kernel
set_option maxRecDepth 20000 in
theorem inX8_X8_standing : ∀ w ∈ u_ws RX8 TX8 14, w ∈ wsX8_standing := by decide +kernel
def f_X8_standing  (house_wets : (Nat → Int32)) (house_host : Int32) (house_rooms : Int32) (house_night : Int32) (house_wheels : Int32) (house_turned : Int32)  (p1 : Int32) : Option (Int32) := (if p1 = (0 : Int32) then some (house_host) else (if p1 = (1 : Int32) then some (house_rooms) else (if p1 = (2 : Int32) then some (house_wheels) else (if p1 = (3 : Int32) then some (house_turned) else (if p1 = (4 : Int32) then ((f_X1_letsNow house_wets house_host house_night house_wheels).bind fun q6 => some (q6)) else ((f_X1_wetNow house_wets house_night).bind fun q7 => some (q7)))))))
set_option maxHeartbeats 4000000 in
set_option maxRecDepth 100000 in
theorem c_X8_standing (l : Launch) (D : va_G) (cI cB cZ : ClassId) (a_this : Nat) (a_house : Nat) (a_house_wets : Nat) (a_house_guests : Nat) (a_house_sights : Nat) (a_house_remarks : Nat) (a_house_marks : Nat) (a_house_past : Nat) (a_spare : Nat) (a_image0 : Nat) (a_image1 : Nat) (a_script : Nat) (a_lineup : Nat) (a_wits : Nat) (house_wets : (Nat → Int32)) (house_host : Int32) (house_rooms : Int32) (house_night : Int32) (house_wheels : Int32) (house_turned : Int32) (kept0 : Int32) (kept1 : Int32) (above : Int32) (below_ : Int32) (bads : Int32) (nos : Int32) (fulls : Int32) (p1 : Int32) (rv : Int32) (sz : Nat) (hf : f_X8_standing house_wets house_host house_rooms house_night house_wheels house_turned p1 = some rv) : Met l yX8_standing wsX8_standing rm_X8_standing (sPc D vwCl (s_tys cI cB cZ) [.ref a_this, .int p1] (wd_X8_standing cI cB cZ a_this a_house a_house_wets a_house_guests a_house_sights a_house_remarks a_house_marks a_house_past a_spare a_image0 a_image1 a_script a_lineup a_wits house_wets house_host house_rooms house_night house_wheels house_turned kept0 kept1 above below_ bads nos fulls) sz) (sQi D vwCl (wd_X8_standing cI cB cZ a_this a_house a_house_wets a_house_guests a_house_sights a_house_remarks a_house_marks a_house_past a_spare a_image0 a_image1 a_script a_lineup a_wits house_wets house_host house_rooms house_night house_wheels house_turned kept0 kept1 above below_ bads nos fulls) (wd_X8_standing cI cB cZ a_this a_house a_house_wets a_house_guests a_house_sights a_house_remarks a_house_marks a_house_past a_spare a_image0 a_image1 a_script a_lineup a_wits house_wets house_host house_rooms house_night house_wheels house_turned kept0 kept1 above below_ bads nos fulls) sz rv) 0 0 (va_A (wd_X8_standing cI cB cZ a_this a_house a_house_wets a_house_guests a_house_sights a_house_remarks a_house_marks a_house_past a_spare a_image0 a_image1 a_script a_lineup a_wits house_wets house_host house_rooms house_night house_wheels house_turned kept0 kept1 above below_ bads nos fulls) sz) := by
  refine s_enter_n (cc := cX8_standing) (nL := 2) (r := rv) (by decide) rfl (Nat.le_of_ble_eq_true rfl) ?_
  intro p e s m args below meth c A Q C0 hend ls hl hS
  have h := hf
  clear hf
  replace hl : lv_has ls 2 [(0, .ref a_this), (1, .int p1)] := hl
  unfold f_X8_standing at h
  obtain ⟨hx, hb, hml, hown, hts, hK, hA⟩ := id C0
  have inX1 : ∀ w ∈ u_ws RX1 TX1 11, w ∈ wsX8_standing := inX1_X8_standing
  have inX8 : ∀ w ∈ u_ws RX8 TX8 14, w ∈ wsX8_standing := inX8_X8_standing
  refine lv_iload_n hx hb dX8_standing_0 rfl (lv_at hl 1 rfl) ?_
  by_cases e1 : p1 = (0 : Int32)
  · refine s_sw hx hb (0 : Int32) e1 dX8_standing_1 (tgt := 36) (by decide) (by decide) rfl (by decide) ?_
    replace h := s_yes e1 h
    refine lv_aload_n hx hb dX8_standing_36 rfl (lv_at hl 0 rfl) ?_
    refine s_get (C := RX8) (T := TX8) (N := 14) hx hb hts inX8 hown hK hS 0 rfl rfl 0 (by decide) (hts (.fieldLink RX8 10 "InnTurned" "house" "LInnTurned$House;") (List.mem_of_getElem? (i := 1) rfl)) rfl rfl dX8_standing_37 ?_
    refine s_getN (C := RX1) (T := TX1) (N := 11) hx hb hts inX1 hown hK hS 1 rfl rfl 6 (by decide) 17 rfl rfl rfl dX8_standing_40 ?_
    obtain rfl := Option.some.inj h
    exact hend _ _ _ _ dX8_standing_43 hS
  replace h := s_no e1 h
  by_cases e2 : p1 = (1 : Int32)
  · refine s_sw hx hb (1 : Int32) e2 dX8_standing_1 (tgt := 44) (by decide) (by decide) rfl (by decide) ?_
    replace h := s_yes e2 h
    refine lv_aload_n hx hb dX8_standing_44 rfl (lv_at hl 0 rfl) ?_
    refine s_get (C := RX8) (T := TX8) (N := 14) hx hb hts inX8 hown hK hS 0 rfl rfl 0 (by decide) (hts (.fieldLink RX8 10 "InnTurned" "house" "LInnTurned$House;") (List.mem_of_getElem? (i := 1) rfl)) rfl rfl dX8_standing_45 ?_
    refine s_getN (C := RX1) (T := TX1) (N := 11) hx hb hts inX1 hown hK hS 1 rfl rfl 7 (by decide) 19 rfl rfl rfl dX8_standing_48 ?_
    obtain rfl := Option.some.inj h
    exact hend _ _ _ _ dX8_standing_51 hS
  replace h := s_no e2 h
  by_cases e3 : p1 = (2 : Int32)
  · refine s_sw hx hb (2 : Int32) e3 dX8_standing_1 (tgt := 52) (by decide) (by decide) rfl (by decide) ?_
    replace h := s_yes e3 h
    refine lv_aload_n hx hb dX8_standing_52 rfl (lv_at hl 0 rfl) ?_
    refine s_get (C := RX8) (T := TX8) (N := 14) hx hb hts inX8 hown hK hS 0 rfl rfl 0 (by decide) (hts (.fieldLink RX8 10 "InnTurned" "house" "LInnTurned$House;") (List.mem_of_getElem? (i := 1) rfl)) rfl rfl dX8_standing_53 ?_
    refine s_getN (C := RX1) (T := TX1) (N := 11) hx hb hts inX1 hown hK hS 1 rfl rfl 9 (by decide) 22 rfl rfl rfl dX8_standing_56 ?_
    obtain rfl := Option.some.inj h
    exact hend _ _ _ _ dX8_standing_59 hS
  replace h := s_no e3 h
  by_cases e4 : p1 = (3 : Int32)
  · refine s_sw hx hb (3 : Int32) e4 dX8_standing_1 (tgt := 60) (by decide) (by decide) rfl (by decide) ?_
    replace h := s_yes e4 h
    refine lv_aload_n hx hb dX8_standing_60 rfl (lv_at hl 0 rfl) ?_
    refine s_get (C := RX8) (T := TX8) (N := 14) hx hb hts inX8 hown hK hS 0 rfl rfl 0 (by decide) (hts (.fieldLink RX8 10 "InnTurned" "house" "LInnTurned$House;") (List.mem_of_getElem? (i := 1) rfl)) rfl rfl dX8_standing_61 ?_
    refine s_getN (C := RX1) (T := TX1) (N := 11) hx hb hts inX1 hown hK hS 1 rfl rfl 10 (by decide) 23 rfl rfl rfl dX8_standing_64 ?_
    obtain rfl := Option.some.inj h
    exact hend _ _ _ _ dX8_standing_67 hS
  replace h := s_no e4 h
  by_cases e5 : p1 = (4 : Int32)
  · refine s_sw hx hb (4 : Int32) e5 dX8_standing_1 (tgt := 68) (by decide) (by decide) rfl (by decide) ?_
    replace h := s_yes e5 h
    refine lv_aload_n hx hb dX8_standing_68 rfl (lv_at hl 0 rfl) ?_
    refine s_get (C := RX8) (T := TX8) (N := 14) hx hb hts inX8 hown hK hS 0 rfl rfl 0 (by decide) (hts (.fieldLink RX8 10 "InnTurned" "house" "LInnTurned$House;") (List.mem_of_getElem? (i := 1) rfl)) rfl rfl dX8_standing_69 ?_
    obtain ⟨q6, hq6, h⟩ := s_bind h
    refine u_calliV (r := q6) (As := []) (rest := []) (wc := (wd_X1_letsNow cI cB cZ a_house a_house_wets a_house_guests a_house_sights a_house_remarks a_house_marks a_house_past house_wets house_host house_rooms house_night house_wheels house_turned)) hx hb hml hown hts hK hA hl hS (c_X1_letsNow l D cI cB cZ a_house a_house_wets a_house_guests a_house_sights a_house_remarks a_house_marks a_house_past house_wets house_host house_rooms house_night house_wheels house_turned _ _ hq6) (cwV 0 hts gX8_standing_X1_letsNow rfl rfl rfl (by decide +kernel) ⟨Nat.le_of_ble_eq_true rfl, Nat.le_of_ble_eq_true rfl⟩) 1 rfl rfl [1, 2] rfl rfl rfl rfl (Nat.le_of_ble_eq_true rfl) dX8_standing_72 (fun H locs hS => ?_)
    obtain rfl := Option.some.inj h
    exact hend _ _ _ _ dX8_standing_75 hS
  replace h := s_no e5 h
  refine lv_tableOut (tgt := 76) hx hb dX8_standing_1 (by have ze1 := s_ne 0 (by exact e1) (by decide); have ze2 := s_ne 1 (by exact e2) (by decide); have ze3 := s_ne 2 (by exact e3) (by decide); have ze4 := s_ne 3 (by exact e4) (by decide); have ze5 := s_ne 4 (by exact e5) (by decide); omega) (by decide) ?_
  refine lv_aload_n hx hb dX8_standing_76 rfl (lv_at hl 0 rfl) ?_
  refine s_get (C := RX8) (T := TX8) (N := 14) hx hb hts inX8 hown hK hS 0 rfl rfl 0 (by decide) (hts (.fieldLink RX8 10 "InnTurned" "house" "LInnTurned$House;") (List.mem_of_getElem? (i := 1) rfl)) rfl rfl dX8_standing_77 ?_
  obtain ⟨q7, hq7, h⟩ := s_bind h
  refine u_calliV (r := q7) (As := []) (rest := []) (wc := (wd_X1_wetNow cI cB cZ a_house a_house_wets a_house_guests a_house_sights a_house_remarks a_house_marks a_house_past house_wets house_host house_rooms house_night house_wheels house_turned)) hx hb hml hown hts hK hA hl hS (c_X1_wetNow l D cI cB cZ a_house a_house_wets a_house_guests a_house_sights a_house_remarks a_house_marks a_house_past house_wets house_host house_rooms house_night house_wheels house_turned _ _ hq7) (cwV 0 hts gX8_standing_X1_wetNow rfl rfl rfl (by decide +kernel) ⟨Nat.le_of_ble_eq_true rfl, Nat.le_of_ble_eq_true rfl⟩) 1 rfl rfl [1, 2] rfl rfl rfl rfl (Nat.le_of_ble_eq_true rfl) dX8_standing_80 (fun H locs hS => ?_)
  obtain rfl := Option.some.inj h
  exact hend _ _ _ _ dX8_standing_83 hS

-- InnTurned.now(I)I
def wd_X8_now (cI cB cZ : ClassId) (a_this : Nat) (a_house : Nat) (a_house_wets : Nat) (a_house_guests : Nat) (a_house_sights : Nat) (a_house_remarks : Nat) (a_house_marks : Nat) (a_house_past : Nat) (a_spare : Nat) (a_image0 : Nat) (a_image1 : Nat) (a_script : Nat) (a_lineup : Nat) (a_wits : Nat)  (house_wets : (Nat → Int32)) (house_host : Int32) (house_rooms : Int32) (house_night : Int32) (house_wheels : Int32) (house_turned : Int32) (kept0 : Int32) (kept1 : Int32) (above : Int32) (below_ : Int32) (bads : Int32) (nos : Int32) (fulls : Int32) : va_W := [(a_this, .inr (5, [.ref a_house, .ref a_spare, .ref a_image0, .ref a_image1, .ref a_script, .ref a_lineup, .ref a_wits, .int kept0, .int kept1, .int above, .int below_, .int bads, .int nos, .int fulls])), (a_house, .inr (0, [.ref a_house_wets, .ref a_house_guests, .ref a_house_sights, .ref a_house_remarks, .ref a_house_marks, .ref a_house_past, .int house_host, .int house_rooms, .int house_night, .int house_wheels, .int house_turned])), (a_house_wets, .inl (cI, 6, .inl house_wets))]
abbrev rm_X8_now : Room := { frames := 3, cells := 0, slots := 0, locals := 66 }
def f_X8_now  (house_wets : (Nat → Int32)) (house_host : Int32) (house_rooms : Int32) (house_night : Int32) (house_wheels : Int32) (house_turned : Int32) (bads : Int32) (p1 : Int32) : Option (Int32 × Int32) := ((f_X8_within p1 (0 : Int32) (5 : Int32)).bind fun q1 => (if q1 = 0 then ((f_X8_bad bads).bind fun q4 => some ((-1000 : Int32), q4.2)) else ((f_X8_standing house_wets house_host house_rooms house_night house_wheels house_turned p1).bind fun q3 => some (q3, bads))))
set_option maxHeartbeats 4000000 in
set_option maxRecDepth 100000 in
theorem c_X8_now (l : Launch) (D : va_G) (cI cB cZ : ClassId) (a_this : Nat) (a_house : Nat) (a_house_wets : Nat) (a_house_guests : Nat) (a_house_sights : Nat) (a_house_remarks : Nat) (a_house_marks : Nat) (a_house_past : Nat) (a_spare : Nat) (a_image0 : Nat) (a_image1 : Nat) (a_script : Nat) (a_lineup : Nat) (a_wits : Nat) (house_wets : (Nat → Int32)) (house_host : Int32) (house_rooms : Int32) (house_night : Int32) (house_wheels : Int32) (house_turned : Int32) (kept0 : Int32) (kept1 : Int32) (above : Int32) (below_ : Int32) (bads : Int32) (nos : Int32) (fulls : Int32) (p1 : Int32) (rv : Int32 × Int32) (sz : Nat) (hf : f_X8_now house_wets house_host house_rooms house_night house_wheels house_turned bads p1 = some rv) : Met l yX8_now wsX8_now rm_X8_now (sPc D vwCl (s_tys cI cB cZ) [.ref a_this, .int p1] (wd_X8_now cI cB cZ a_this a_house a_house_wets a_house_guests a_house_sights a_house_remarks a_house_marks a_house_past a_spare a_image0 a_image1 a_script a_lineup a_wits house_wets house_host house_rooms house_night house_wheels house_turned kept0 kept1 above below_ bads nos fulls) sz) (sQi D vwCl (wd_X8_now cI cB cZ a_this a_house a_house_wets a_house_guests a_house_sights a_house_remarks a_house_marks a_house_past a_spare a_image0 a_image1 a_script a_lineup a_wits house_wets house_host house_rooms house_night house_wheels house_turned kept0 kept1 above below_ bads nos fulls) (wd_X8_now cI cB cZ a_this a_house a_house_wets a_house_guests a_house_sights a_house_remarks a_house_marks a_house_past a_spare a_image0 a_image1 a_script a_lineup a_wits house_wets house_host house_rooms house_night house_wheels house_turned kept0 kept1 above below_ rv.2 nos fulls) sz rv.1) 0 0 (va_A (wd_X8_now cI cB cZ a_this a_house a_house_wets a_house_guests a_house_sights a_house_remarks a_house_marks a_house_past a_spare a_image0 a_image1 a_script a_lineup a_wits house_wets house_host house_rooms house_night house_wheels house_turned kept0 kept1 above below_ bads nos fulls) sz) := by
  refine s_enter_n (cc := cX8_now) (nL := 2) (r := rv.1) (by decide) rfl (Nat.le_of_ble_eq_true rfl) ?_
  intro p e s m args below meth c A Q C0 hend ls hl hS
  have h := hf
  clear hf
  replace hl : lv_has ls 2 [(0, .ref a_this), (1, .int p1)] := hl
  unfold f_X8_now at h
  obtain ⟨hx, hb, hml, hown, hts, hK, hA⟩ := id C0
  refine lv_iload_n hx hb dX8_now_0 rfl (lv_at hl 1 rfl) ?_
  refine lv_iconst (v := (0 : Int32)) hx hb dX8_now_1 (by decide) ?_
  refine lv_iconst (v := (5 : Int32)) hx hb dX8_now_2 (by decide) ?_
  obtain ⟨q1, hq1, h⟩ := s_bind h
  refine u_calliS (r := q1) (As := [.int p1, .int (0 : Int32), .int (5 : Int32)]) (rest := []) (wc := ([] : va_W)) hx hb hml hown hts hK hA hl hS (c_X8_within l D cI cB cZ p1 (0 : Int32) (5 : Int32) _ _ hq1) (va_cwS 3 hts gX8_now_X8_within rfl rfl rfl (by decide +kernel) ⟨Nat.le_of_ble_eq_true rfl, Nat.le_of_ble_eq_true rfl⟩) [] rfl rfl rfl rfl (Nat.le_of_ble_eq_true rfl) dX8_now_3 (fun H locs hS => ?_)
  refine lv_if_ne (tgt := 18) hx hb dX8_now_6 (by decide) (fun c2 => ?_) (fun c2 => ?_)
  · replace h := s_no c2 h
    refine lv_aload_n hx hb dX8_now_18 rfl (lv_at hl 0 rfl) ?_
    refine lv_iload_n hx hb dX8_now_19 rfl (lv_at hl 1 rfl) ?_
    obtain ⟨q3, hq3, h⟩ := s_bind h
    refine u_calliV (r := q3) (As := [.int p1]) (rest := []) (wc := (wd_X8_standing cI cB cZ a_this a_house a_house_wets a_house_guests a_house_sights a_house_remarks a_house_marks a_house_past a_spare a_image0 a_image1 a_script a_lineup a_wits house_wets house_host house_rooms house_night house_wheels house_turned kept0 kept1 above below_ bads nos fulls)) hx hb hml hown hts hK hA hl hS (c_X8_standing l D cI cB cZ a_this a_house a_house_wets a_house_guests a_house_sights a_house_remarks a_house_marks a_house_past a_spare a_image0 a_image1 a_script a_lineup a_wits house_wets house_host house_rooms house_night house_wheels house_turned kept0 kept1 above below_ bads nos fulls p1 _ _ hq3) (cwV 1 hts gX8_now_X8_standing rfl rfl rfl (by decide +kernel) ⟨Nat.le_of_ble_eq_true rfl, Nat.le_of_ble_eq_true rfl⟩) 0 rfl rfl [0, 1, 2] rfl rfl rfl rfl (Nat.le_of_ble_eq_true rfl) dX8_now_20 (fun H locs hS => ?_)
    obtain rfl := Option.some.inj h
    exact hend _ _ _ _ dX8_now_23 hS
  replace h := s_yes c2 h
  refine lv_aload_n hx hb dX8_now_9 rfl (lv_at hl 0 rfl) ?_
  obtain ⟨q4, hq4, h⟩ := s_bind h
  refine r_calliV (r := q4.1) (As := []) (rest := []) (wc := (wd_X8_bad cI cB cZ a_this a_house a_spare a_image0 a_image1 a_script a_lineup a_wits kept0 kept1 above below_ bads nos fulls)) (w1 := (wd_X8_bad cI cB cZ a_this a_house a_spare a_image0 a_image1 a_script a_lineup a_wits kept0 kept1 above below_ q4.2 nos fulls)) (ws' := (wd_X8_now cI cB cZ a_this a_house a_house_wets a_house_guests a_house_sights a_house_remarks a_house_marks a_house_past a_spare a_image0 a_image1 a_script a_lineup a_wits house_wets house_host house_rooms house_night house_wheels house_turned kept0 kept1 above below_ q4.2 nos fulls)) hx hb hml hown hts hK hA hl hS (c_X8_bad l D cI cB cZ a_this a_house a_spare a_image0 a_image1 a_script a_lineup a_wits kept0 kept1 above below_ bads nos fulls _ _ hq4) (cwV 0 hts gX8_now_X8_bad rfl rfl rfl (by decide +kernel) ⟨Nat.le_of_ble_eq_true rfl, Nat.le_of_ble_eq_true rfl⟩) 0 rfl rfl [0] rfl rfl rfl [.inr 0, .inl 1, .inl 2] rfl rfl rfl rfl (Nat.le_of_ble_eq_true rfl) dX8_now_10 (fun H locs hS => ?_)
  refine lv_pop hx hb dX8_now_13 rfl ?_
  refine lv_sipush (v := (-1000 : Int32)) hx hb dX8_now_14 (by decide) ?_
  obtain rfl := Option.some.inj h
  exact hend _ _ _ _ dX8_now_17 hS

-- InnTurned.may()I
def wd_X8_may (cI cB cZ : ClassId) (a_this : Nat) (a_house : Nat) (a_house_wets : Nat) (a_house_guests : Nat) (a_house_guests_cells : Nat) (a_house_sights : Nat) (a_house_remarks : Nat) (a_house_marks : Nat) (a_house_past : Nat) (a_spare : Nat) (a_image0 : Nat) (a_image1 : Nat) (a_script : Nat) (a_lineup : Nat) (a_wits : Nat)  (house_wets : (Nat → Int32)) (house_guests_cells : (Nat → Int32)) (house_guests_rows : Int32) (house_host : Int32) (house_rooms : Int32) (house_night : Int32) (house_wheels : Int32) (house_turned : Int32) (kept0 : Int32) (kept1 : Int32) (above : Int32) (below_ : Int32) (bads : Int32) (nos : Int32) (fulls : Int32) : va_W := [(a_this, .inr (5, [.ref a_house, .ref a_spare, .ref a_image0, .ref a_image1, .ref a_script, .ref a_lineup, .ref a_wits, .int kept0, .int kept1, .int above, .int below_, .int bads, .int nos, .int fulls])), (a_house, .inr (0, [.ref a_house_wets, .ref a_house_guests, .ref a_house_sights, .ref a_house_remarks, .ref a_house_marks, .ref a_house_past, .int house_host, .int house_rooms, .int house_night, .int house_wheels, .int house_turned])), (a_house_wets, .inl (cI, 6, .inl house_wets)), (a_house_guests, .inr (3, [.int 4, .int 7, .ref a_house_guests_cells, .int house_guests_rows])), (a_house_guests_cells, .inl (cI, 28, .inl house_guests_cells))]
abbrev rm_X8_may : Room := { frames := 4, cells := 0, slots := 0, locals := 87 }
set_option maxRecDepth 20000 in
theorem inX1_X8_may : ∀ w ∈ u_ws RX1 TX1 11, w ∈ wsX8_may := by decide +kernel
set_option maxRecDepth 20000 in
theorem inX5_X8_may : ∀ w ∈ u_ws RX5 TX5 4, w ∈ wsX8_may := by decide +kernel
set_option maxRecDepth 20000 in
theorem inX8_X8_may : ∀ w ∈ u_ws RX8 TX8 14, w ∈ wsX8_may := by decide +kernel
def f_X8_may_b53 (k_b4 : Int32 → Int32 → Option (Int32))  (house_wets : (Nat → Int32)) (house_guests_cells : (Nat → Int32)) (house_guests_rows : Int32) (house_host : Int32) (house_rooms : Int32) (house_night : Int32) (house_wheels : Int32)  (l1 : Int32) (l2 : Int32) : Option (Int32) := k_b4 l1 (l2 + (1 : Int32))
set_option maxHeartbeats 4000000 in
set_option maxRecDepth 100000 in
theorem w_X8_may_b53 {p : Program} {l : Launch} {e : Env} {s : State} {m : MethodId} {args : Array Value} {below : List Frame} {meth : Method} {c : Code} {A : Nat → Prop} {Q : State → Prop} {D : va_G} {cI cB cZ : ClassId} {a_this a_house a_house_wets a_house_guests a_house_guests_cells a_house_sights a_house_remarks a_house_marks a_house_past a_spare a_image0 a_image1 a_script a_lineup a_wits : Nat} {house_wets : (Nat → Int32)} {house_guests_cells : (Nat → Int32)} {house_guests_rows : Int32} {house_host : Int32} {house_rooms : Int32} {house_night : Int32} {house_wheels : Int32} {house_turned : Int32} {kept0 : Int32} {kept1 : Int32} {above : Int32} {below_ : Int32} {bads : Int32} {nos : Int32} {fulls : Int32} (C0 : Cx p s m args c cX8_may 3 RX8 wsX8_may D (s_tys cI cB cZ) A) {rv : Int32} (hend : ∀ (pc : Nat) (H : Heap) (locs : List Loc) (ls : Array Slot), decode cX8_may pc = .ok (.ireturn, 1) → sS D vwCl A s.heap (wd_X8_may cI cB cZ a_this a_house a_house_wets a_house_guests a_house_guests_cells a_house_sights a_house_remarks a_house_marks a_house_past a_spare a_image0 a_image1 a_script a_lineup a_wits house_wets house_guests_cells house_guests_rows house_host house_rooms house_night house_wheels house_turned kept0 kept1 above below_ bads nos fulls) H locs → W p l e rm_X8_may s m args below meth c H locs 0 0 Q (F0 m pc ls [.int rv])) (k_b4 : Int32 → Int32 → Option (Int32)) (hk_b4 : ∀  (l1 : Int32) (l2 : Int32) (H : Heap) (locs : List Loc) (ls : Array Slot), k_b4 l1 l2 = some rv → sS D vwCl A s.heap (wd_X8_may cI cB cZ a_this a_house a_house_wets a_house_guests a_house_guests_cells a_house_sights a_house_remarks a_house_marks a_house_past a_spare a_image0 a_image1 a_script a_lineup a_wits house_wets house_guests_cells house_guests_rows house_host house_rooms house_night house_wheels house_turned kept0 kept1 above below_ bads nos fulls) H locs → lv_has ls 3 [(0, .ref a_this), (1, .int l1), (2, .int l2)] → W p l e rm_X8_may s m args below meth c H locs 0 0 Q (F0 m 4 ls [])) : ∀  (l1 : Int32) (l2 : Int32) (H : Heap) (locs : List Loc) (ls : Array Slot), f_X8_may_b53 k_b4 house_wets house_guests_cells house_guests_rows house_host house_rooms house_night house_wheels l1 l2 = some rv → sS D vwCl A s.heap (wd_X8_may cI cB cZ a_this a_house a_house_wets a_house_guests a_house_guests_cells a_house_sights a_house_remarks a_house_marks a_house_past a_spare a_image0 a_image1 a_script a_lineup a_wits house_wets house_guests_cells house_guests_rows house_host house_rooms house_night house_wheels house_turned kept0 kept1 above below_ bads nos fulls) H locs → lv_has ls 3 [(0, .ref a_this), (1, .int l1), (2, .int l2)] → W p l e rm_X8_may s m args below meth c H locs 0 0 Q (F0 m 53 ls []) := by
  obtain ⟨hx, hb, hml, hown, hts, hK, hA⟩ := id C0
  have inX1 : ∀ w ∈ u_ws RX1 TX1 11, w ∈ wsX8_may := inX1_X8_may
  have inX5 : ∀ w ∈ u_ws RX5 TX5 4, w ∈ wsX8_may := inX5_X8_may
  have inX8 : ∀ w ∈ u_ws RX8 TX8 14, w ∈ wsX8_may := inX8_X8_may
  intro l1 l2 H locs ls h hS hl
  unfold f_X8_may_b53 at h
  refine lv_iinc (v := (l2 + (1 : Int32))) (lv' := [(2, .int (l2 + (1 : Int32))), (0, .ref a_this), (1, .int l1)]) hx hb dX8_may_53 hl (k := 2) rfl rfl (by decide) rfl (fun ls hl => ?_)
  refine lv_goto (tgt := 4) hx hb dX8_may_56 (by decide) ?_
  exact hk_b4 l1 (l2 + (1 : Int32)) _ _ _ h hS (lv_sub hl [1, 2, 0] rfl)
def f_X8_may_b4  (house_wets : (Nat → Int32)) (house_guests_cells : (Nat → Int32)) (house_guests_rows : Int32) (house_host : Int32) (house_rooms : Int32) (house_night : Int32) (house_wheels : Int32) : Nat → Int32 → Int32 → Option (Int32)
  | 0, _, _ => none
  | fu + 1, l1, l2 => (if house_guests_rows ≤ l2 then some (l1) else ((f_X1_isIn house_guests_cells house_guests_rows l2).bind fun q2 => (if q2 = 0 then ((f_X1_wetNow house_wets house_night).bind fun q4 => ((f_X1_opensTo house_guests_cells house_guests_rows house_host house_rooms house_night house_wheels l2 q4).bind fun q5 => (if q5 = 0 then f_X8_may_b53 (f_X8_may_b4 house_wets house_guests_cells house_guests_rows house_host house_rooms house_night house_wheels fu) house_wets house_guests_cells house_guests_rows house_host house_rooms house_night house_wheels l1 l2 else f_X8_may_b53 (f_X8_may_b4 house_wets house_guests_cells house_guests_rows house_host house_rooms house_night house_wheels fu) house_wets house_guests_cells house_guests_rows house_host house_rooms house_night house_wheels (l1 ||| ((1 : Int32) <<< (l2 &&& 31))) l2))) else f_X8_may_b53 (f_X8_may_b4 house_wets house_guests_cells house_guests_rows house_host house_rooms house_night house_wheels fu) house_wets house_guests_cells house_guests_rows house_host house_rooms house_night house_wheels l1 l2)))
set_option maxHeartbeats 4000000 in
set_option maxRecDepth 100000 in
theorem w_X8_may_b4 {p : Program} {l : Launch} {e : Env} {s : State} {m : MethodId} {args : Array Value} {below : List Frame} {meth : Method} {c : Code} {A : Nat → Prop} {Q : State → Prop} {D : va_G} {cI cB cZ : ClassId} {a_this a_house a_house_wets a_house_guests a_house_guests_cells a_house_sights a_house_remarks a_house_marks a_house_past a_spare a_image0 a_image1 a_script a_lineup a_wits : Nat} {house_wets : (Nat → Int32)} {house_guests_cells : (Nat → Int32)} {house_guests_rows : Int32} {house_host : Int32} {house_rooms : Int32} {house_night : Int32} {house_wheels : Int32} {house_turned : Int32} {kept0 : Int32} {kept1 : Int32} {above : Int32} {below_ : Int32} {bads : Int32} {nos : Int32} {fulls : Int32} (C0 : Cx p s m args c cX8_may 3 RX8 wsX8_may D (s_tys cI cB cZ) A) {rv : Int32} (hend : ∀ (pc : Nat) (H : Heap) (locs : List Loc) (ls : Array Slot), decode cX8_may pc = .ok (.ireturn, 1) → sS D vwCl A s.heap (wd_X8_may cI cB cZ a_this a_house a_house_wets a_house_guests a_house_guests_cells a_house_sights a_house_remarks a_house_marks a_house_past a_spare a_image0 a_image1 a_script a_lineup a_wits house_wets house_guests_cells house_guests_rows house_host house_rooms house_night house_wheels house_turned kept0 kept1 above below_ bads nos fulls) H locs → W p l e rm_X8_may s m args below meth c H locs 0 0 Q (F0 m pc ls [.int rv])) : ∀ (fu : Nat)  (l1 : Int32) (l2 : Int32) (H : Heap) (locs : List Loc) (ls : Array Slot), f_X8_may_b4 house_wets house_guests_cells house_guests_rows house_host house_rooms house_night house_wheels fu l1 l2 = some rv → sS D vwCl A s.heap (wd_X8_may cI cB cZ a_this a_house a_house_wets a_house_guests a_house_guests_cells a_house_sights a_house_remarks a_house_marks a_house_past a_spare a_image0 a_image1 a_script a_lineup a_wits house_wets house_guests_cells house_guests_rows house_host house_rooms house_night house_wheels house_turned kept0 kept1 above below_ bads nos fulls) H locs → lv_has ls 3 [(0, .ref a_this), (1, .int l1), (2, .int l2)] → W p l e rm_X8_may s m args below meth c H locs 0 0 Q (F0 m 4 ls []) := by
  obtain ⟨hx, hb, hml, hown, hts, hK, hA⟩ := id C0
  have inX1 : ∀ w ∈ u_ws RX1 TX1 11, w ∈ wsX8_may := inX1_X8_may
  have inX5 : ∀ w ∈ u_ws RX5 TX5 4, w ∈ wsX8_may := inX5_X8_may
  have inX8 : ∀ w ∈ u_ws RX8 TX8 14, w ∈ wsX8_may := inX8_X8_may
  intro fu
  induction fu with
  | zero => intro l1 l2 H locs ls h; cases h
  | succ fu ih =>
    intro l1 l2 H locs ls h hS hl
    rw [f_X8_may_b4] at h
    refine lv_iload_n hx hb dX8_may_4 rfl (lv_at hl 2 rfl) ?_
    refine lv_aload_n hx hb dX8_may_5 rfl (lv_at hl 0 rfl) ?_
    refine s_get (C := RX8) (T := TX8) (N := 14) hx hb hts inX8 hown hK hS 0 rfl rfl 0 (by decide) (hts (.fieldLink RX8 10 "InnTurned" "house" "LInnTurned$House;") (List.mem_of_getElem? (i := 1) rfl)) rfl rfl dX8_may_6 ?_
    refine s_getN (C := RX1) (T := TX1) (N := 11) hx hb hts inX1 hown hK hS 1 rfl rfl 1 (by decide) 7 rfl rfl rfl dX8_may_9 ?_
    refine s_getN (C := RX5) (T := TX5) (N := 4) hx hb hts inX5 hown hK hS 3 rfl rfl 3 (by decide) 2 rfl rfl rfl dX8_may_12 ?_
    refine lv_icmp_ge (tgt := 59) hx hb dX8_may_15 (by decide) (fun c1 => ?_) (fun c1 => ?_)
    · replace h := s_yes c1 h
      refine lv_iload_n hx hb dX8_may_59 rfl (lv_at hl 1 rfl) ?_
      obtain rfl := Option.some.inj h
      exact hend _ _ _ _ dX8_may_60 hS
    replace h := s_no c1 h
    refine lv_aload_n hx hb dX8_may_18 rfl (lv_at hl 0 rfl) ?_
    refine s_get (C := RX8) (T := TX8) (N := 14) hx hb hts inX8 hown hK hS 0 rfl rfl 0 (by decide) (hts (.fieldLink RX8 10 "InnTurned" "house" "LInnTurned$House;") (List.mem_of_getElem? (i := 1) rfl)) rfl rfl dX8_may_19 ?_
    refine lv_iload_n hx hb dX8_may_22 rfl (lv_at hl 2 rfl) ?_
    obtain ⟨q2, hq2, h⟩ := s_bind h
    refine u_calliV (r := q2) (As := [.int l2]) (rest := []) (wc := (wd_X1_isIn cI cB cZ a_house a_house_wets a_house_guests a_house_guests_cells a_house_sights a_house_remarks a_house_marks a_house_past house_guests_cells house_guests_rows house_host house_rooms house_night house_wheels house_turned)) hx hb hml hown hts hK hA hl hS (c_X1_isIn l D cI cB cZ a_house a_house_wets a_house_guests a_house_guests_cells a_house_sights a_house_remarks a_house_marks a_house_past house_guests_cells house_guests_rows house_host house_rooms house_night house_wheels house_turned l2 _ _ hq2) (cwV 1 hts gX8_may_X1_isIn rfl rfl rfl (by decide +kernel) ⟨Nat.le_of_ble_eq_true rfl, Nat.le_of_ble_eq_true rfl⟩) 1 rfl rfl [1, 3, 4] rfl rfl rfl rfl (Nat.le_of_ble_eq_true rfl) dX8_may_23 (fun H locs hS => ?_)
    refine lv_if_ne (tgt := 53) hx hb dX8_may_26 (by decide) (fun c3 => ?_) (fun c3 => ?_)
    · replace h := s_no c3 h
      exact w_X8_may_b53 C0 hend (f_X8_may_b4 house_wets house_guests_cells house_guests_rows house_host house_rooms house_night house_wheels fu) ih l1 l2 _ _ _ h hS (lv_sub hl [0, 1, 2] rfl)
    replace h := s_yes c3 h
    refine lv_aload_n hx hb dX8_may_29 rfl (lv_at hl 0 rfl) ?_
    refine s_get (C := RX8) (T := TX8) (N := 14) hx hb hts inX8 hown hK hS 0 rfl rfl 0 (by decide) (hts (.fieldLink RX8 10 "InnTurned" "house" "LInnTurned$House;") (List.mem_of_getElem? (i := 1) rfl)) rfl rfl dX8_may_30 ?_
    refine lv_iload_n hx hb dX8_may_33 rfl (lv_at hl 2 rfl) ?_
    refine lv_aload_n hx hb dX8_may_34 rfl (lv_at hl 0 rfl) ?_
    refine s_get (C := RX8) (T := TX8) (N := 14) hx hb hts inX8 hown hK hS 0 rfl rfl 0 (by decide) (hts (.fieldLink RX8 10 "InnTurned" "house" "LInnTurned$House;") (List.mem_of_getElem? (i := 1) rfl)) rfl rfl dX8_may_35 ?_
    obtain ⟨q4, hq4, h⟩ := s_bind h
    refine u_calliV (r := q4) (As := []) (rest := [.int l2, .ref a_house]) (wc := (wd_X1_wetNow cI cB cZ a_house a_house_wets a_house_guests a_house_sights a_house_remarks a_house_marks a_house_past house_wets house_host house_rooms house_night house_wheels house_turned)) hx hb hml hown hts hK hA hl hS (c_X1_wetNow l D cI cB cZ a_house a_house_wets a_house_guests a_house_sights a_house_remarks a_house_marks a_house_past house_wets house_host house_rooms house_night house_wheels house_turned _ _ hq4) (cwV 0 hts gX8_may_X1_wetNow rfl rfl rfl (by decide +kernel) ⟨Nat.le_of_ble_eq_true rfl, Nat.le_of_ble_eq_true rfl⟩) 1 rfl rfl [1, 2] rfl rfl rfl rfl (Nat.le_of_ble_eq_true rfl) dX8_may_38 (fun H locs hS => ?_)
    obtain ⟨q5, hq5, h⟩ := s_bind h
    refine u_calliV (r := q5) (As := [.int l2, .int q4]) (rest := []) (wc := (wd_X1_opensTo cI cB cZ a_house a_house_wets a_house_guests a_house_guests_cells a_house_sights a_house_remarks a_house_marks a_house_past house_guests_cells house_guests_rows house_host house_rooms house_night house_wheels house_turned)) hx hb hml hown hts hK hA hl hS (c_X1_opensTo l D cI cB cZ a_house a_house_wets a_house_guests a_house_guests_cells a_house_sights a_house_remarks a_house_marks a_house_past house_guests_cells house_guests_rows house_host house_rooms house_night house_wheels house_turned l2 q4 _ _ hq5) (cwV 2 hts gX8_may_X1_opensTo rfl rfl rfl (by decide +kernel) ⟨Nat.le_of_ble_eq_true rfl, Nat.le_of_ble_eq_true rfl⟩) 1 rfl rfl [1, 3, 4] rfl rfl rfl rfl (Nat.le_of_ble_eq_true rfl) dX8_may_41 (fun H locs hS => ?_)
    refine lv_if_eq (tgt := 53) hx hb dX8_may_44 (by decide) (fun c6 => ?_) (fun c6 => ?_)
    · replace h := s_yes c6 h
      exact w_X8_may_b53 C0 hend (f_X8_may_b4 house_wets house_guests_cells house_guests_rows house_host house_rooms house_night house_wheels fu) ih l1 l2 _ _ _ h hS (lv_sub hl [0, 1, 2] rfl)
    replace h := s_no c6 h
    refine lv_iload_n hx hb dX8_may_47 rfl (lv_at hl 1 rfl) ?_
    refine lv_iconst (v := (1 : Int32)) hx hb dX8_may_48 (by decide) ?_
    refine lv_iload_n hx hb dX8_may_49 rfl (lv_at hl 2 rfl) ?_
    refine lv_ishl hx hb dX8_may_50 ?_
    refine lv_ior hx hb dX8_may_51 ?_
    refine lv_istore_n (lv' := [(1, .int (l1 ||| ((1 : Int32) <<< (l2 &&& 31)))), (0, .ref a_this), (2, .int l2)]) hx hb dX8_may_52 rfl hl (by decide) rfl (fun ls hl => ?_)
    exact w_X8_may_b53 C0 hend (f_X8_may_b4 house_wets house_guests_cells house_guests_rows house_host house_rooms house_night house_wheels fu) ih (l1 ||| ((1 : Int32) <<< (l2 &&& 31))) l2 _ _ _ h hS (lv_sub hl [1, 0, 2] rfl)
def f_X8_may  (house_wets : (Nat → Int32)) (house_guests_cells : (Nat → Int32)) (house_guests_rows : Int32) (house_host : Int32) (house_rooms : Int32) (house_night : Int32) (house_wheels : Int32)  : Option (Int32) := f_X8_may_b4  house_wets house_guests_cells house_guests_rows house_host house_rooms house_night house_wheels s_fuel (0 : Int32) (0 : Int32)
set_option maxHeartbeats 4000000 in
set_option maxRecDepth 100000 in
theorem c_X8_may (l : Launch) (D : va_G) (cI cB cZ : ClassId) (a_this : Nat) (a_house : Nat) (a_house_wets : Nat) (a_house_guests : Nat) (a_house_guests_cells : Nat) (a_house_sights : Nat) (a_house_remarks : Nat) (a_house_marks : Nat) (a_house_past : Nat) (a_spare : Nat) (a_image0 : Nat) (a_image1 : Nat) (a_script : Nat) (a_lineup : Nat) (a_wits : Nat) (house_wets : (Nat → Int32)) (house_guests_cells : (Nat → Int32)) (house_guests_rows : Int32) (house_host : Int32) (house_rooms : Int32) (house_night : Int32) (house_wheels : Int32) (house_turned : Int32) (kept0 : Int32) (kept1 : Int32) (above : Int32) (below_ : Int32) (bads : Int32) (nos : Int32) (fulls : Int32) (rv : Int32) (sz : Nat) (hf : f_X8_may house_wets house_guests_cells house_guests_rows house_host house_rooms house_night house_wheels = some rv) : Met l yX8_may wsX8_may rm_X8_may (sPc D vwCl (s_tys cI cB cZ) [.ref a_this] (wd_X8_may cI cB cZ a_this a_house a_house_wets a_house_guests a_house_guests_cells a_house_sights a_house_remarks a_house_marks a_house_past a_spare a_image0 a_image1 a_script a_lineup a_wits house_wets house_guests_cells house_guests_rows house_host house_rooms house_night house_wheels house_turned kept0 kept1 above below_ bads nos fulls) sz) (sQi D vwCl (wd_X8_may cI cB cZ a_this a_house a_house_wets a_house_guests a_house_guests_cells a_house_sights a_house_remarks a_house_marks a_house_past a_spare a_image0 a_image1 a_script a_lineup a_wits house_wets house_guests_cells house_guests_rows house_host house_rooms house_night house_wheels house_turned kept0 kept1 above below_ bads nos fulls) (wd_X8_may cI cB cZ a_this a_house a_house_wets a_house_guests a_house_guests_cells a_house_sights a_house_remarks a_house_marks a_house_past a_spare a_image0 a_image1 a_script a_lineup a_wits house_wets house_guests_cells house_guests_rows house_host house_rooms house_night house_wheels house_turned kept0 kept1 above below_ bads nos fulls) sz rv) 0 0 (va_A (wd_X8_may cI cB cZ a_this a_house a_house_wets a_house_guests a_house_guests_cells a_house_sights a_house_remarks a_house_marks a_house_past a_spare a_image0 a_image1 a_script a_lineup a_wits house_wets house_guests_cells house_guests_rows house_host house_rooms house_night house_wheels house_turned kept0 kept1 above below_ bads nos fulls) sz) := by
  refine s_enter_n (cc := cX8_may) (nL := 3) (r := rv) (by decide) rfl (Nat.le_of_ble_eq_true rfl) ?_
  intro p e s m args below meth c A Q C0 hend ls hl hS
  have h := hf
  clear hf
  replace hl : lv_has ls 3 [(0, .ref a_this)] := hl
  unfold f_X8_may at h
  obtain ⟨hx, hb, hml, hown, hts, hK, hA⟩ := id C0
  have inX1 : ∀ w ∈ u_ws RX1 TX1 11, w ∈ wsX8_may := inX1_X8_may
  have inX5 : ∀ w ∈ u_ws RX5 TX5 4, w ∈ wsX8_may := inX5_X8_may
  have inX8 : ∀ w ∈ u_ws RX8 TX8 14, w ∈ wsX8_may := inX8_X8_may
  refine lv_iconst (v := (0 : Int32)) hx hb dX8_may_0 (by decide) ?_
  refine lv_istore_n (lv' := [(1, .int (0 : Int32)), (0, .ref a_this)]) hx hb dX8_may_1 rfl hl (by decide) rfl (fun ls hl => ?_)
  refine lv_iconst (v := (0 : Int32)) hx hb dX8_may_2 (by decide) ?_
  refine lv_istore_n (lv' := [(2, .int (0 : Int32)), (1, .int (0 : Int32)), (0, .ref a_this)]) hx hb dX8_may_3 rfl hl (by decide) rfl (fun ls hl => ?_)
  exact w_X8_may_b4 C0 hend  s_fuel (0 : Int32) (0 : Int32) _ _ _ h hS (lv_sub hl [2, 1, 0] rfl)

-- InnTurned.when(I)I
def wd_X8_when (cI cB cZ : ClassId) (a_this : Nat) (a_house : Nat) (a_house_wets : Nat) (a_house_guests : Nat) (a_house_guests_cells : Nat) (a_house_sights : Nat) (a_house_remarks : Nat) (a_house_marks : Nat) (a_house_past : Nat) (a_spare : Nat) (a_image0 : Nat) (a_image1 : Nat) (a_script : Nat) (a_lineup : Nat) (a_wits : Nat)  (house_wets : (Nat → Int32)) (house_guests_cells : (Nat → Int32)) (house_guests_rows : Int32) (house_host : Int32) (house_rooms : Int32) (house_night : Int32) (house_wheels : Int32) (house_turned : Int32) (kept0 : Int32) (kept1 : Int32) (above : Int32) (below_ : Int32) (bads : Int32) (nos : Int32) (fulls : Int32) : va_W := [(a_this, .inr (5, [.ref a_house, .ref a_spare, .ref a_image0, .ref a_image1, .ref a_script, .ref a_lineup, .ref a_wits, .int kept0, .int kept1, .int above, .int below_, .int bads, .int nos, .int fulls])), (a_house, .inr (0, [.ref a_house_wets, .ref a_house_guests, .ref a_house_sights, .ref a_house_remarks, .ref a_house_marks, .ref a_house_past, .int house_host, .int house_rooms, .int house_night, .int house_wheels, .int house_turned])), (a_house_wets, .inl (cI, 6, .inl house_wets)), (a_house_guests, .inr (3, [.int 4, .int 7, .ref a_house_guests_cells, .int house_guests_rows])), (a_house_guests_cells, .inl (cI, 28, .inl house_guests_cells))]
abbrev rm_X8_when : Room := { frames := 3, cells := 0, slots := 0, locals := 65 }
set_option maxRecDepth 20000 in
theorem inX1_X8_when : ∀ w ∈ u_ws RX1 TX1 11, w ∈ wsX8_when := by decide +kernel
set_option maxRecDepth 20000 in
theorem inX8_X8_when : ∀ w ∈ u_ws RX8 TX8 14, w ∈ wsX8_when := by decide +kernel
def f_X8_when_b84 (k_b41 : Int32 → Int32 → Int32 → Option (Int32 × Int32))  (house_wets : (Nat → Int32)) (house_guests_cells : (Nat → Int32)) (house_guests_rows : Int32) (house_host : Int32) (house_rooms : Int32) (house_night : Int32) (house_wheels : Int32) (bads : Int32) (l1 : Int32) (l2 : Int32) (l3 : Int32) (t0 : Int32) (t1 : Int32) : Option (Int32 × Int32) := ((f_X1_letsPass house_host t1 t0).bind fun q1 => ((f_X5_cell 28 (4 : Int32) house_guests_cells house_guests_rows l1 (1 : Int32)).bind fun q2 => ((f_X5_cell 28 (4 : Int32) house_guests_cells house_guests_rows l1 (2 : Int32)).bind fun q3 => ((f_X1_likely house_guests_cells house_guests_rows l1 q2 q3 l3).bind fun q4 => (if q1 < q4 then k_b41 bads l1 (l2 + (1 : Int32)) else some (l2, bads))))))
set_option maxHeartbeats 4000000 in
set_option maxRecDepth 100000 in
theorem w_X8_when_b84 {p : Program} {l : Launch} {e : Env} {s : State} {m : MethodId} {args : Array Value} {below : List Frame} {meth : Method} {c : Code} {A : Nat → Prop} {Q : State → Prop} {D : va_G} {cI cB cZ : ClassId} {a_this a_house a_house_wets a_house_guests a_house_guests_cells a_house_sights a_house_remarks a_house_marks a_house_past a_spare a_image0 a_image1 a_script a_lineup a_wits : Nat} {house_wets : (Nat → Int32)} {house_guests_cells : (Nat → Int32)} {house_guests_rows : Int32} {house_host : Int32} {house_rooms : Int32} {house_night : Int32} {house_wheels : Int32} {house_turned : Int32} {kept0 : Int32} {kept1 : Int32} {above : Int32} {below_ : Int32} {nos : Int32} {fulls : Int32} (C0 : Cx p s m args c cX8_when 5 RX8 wsX8_when D (s_tys cI cB cZ) A) {rv : Int32 × Int32} (hend : ∀ (pc : Nat) (H : Heap) (locs : List Loc) (ls : Array Slot), decode cX8_when pc = .ok (.ireturn, 1) → sS D vwCl A s.heap (wd_X8_when cI cB cZ a_this a_house a_house_wets a_house_guests a_house_guests_cells a_house_sights a_house_remarks a_house_marks a_house_past a_spare a_image0 a_image1 a_script a_lineup a_wits house_wets house_guests_cells house_guests_rows house_host house_rooms house_night house_wheels house_turned kept0 kept1 above below_ rv.2 nos fulls) H locs → W p l e rm_X8_when s m args below meth c H locs 0 0 Q (F0 m pc ls [.int rv.1])) (k_b41 : Int32 → Int32 → Int32 → Option (Int32 × Int32)) (hk_b41 : ∀ (bads : Int32) (l1 : Int32) (l2 : Int32) (H : Heap) (locs : List Loc) (ls : Array Slot), k_b41 bads l1 l2 = some rv → sS D vwCl A s.heap (wd_X8_when cI cB cZ a_this a_house a_house_wets a_house_guests a_house_guests_cells a_house_sights a_house_remarks a_house_marks a_house_past a_spare a_image0 a_image1 a_script a_lineup a_wits house_wets house_guests_cells house_guests_rows house_host house_rooms house_night house_wheels house_turned kept0 kept1 above below_ bads nos fulls) H locs → lv_has ls 5 [(0, .ref a_this), (1, .int l1), (2, .int l2)] → W p l e rm_X8_when s m args below meth c H locs 0 0 Q (F0 m 41 ls [])) : ∀ (bads : Int32) (l1 : Int32) (l2 : Int32) (l3 : Int32) (t0 : Int32) (t1 : Int32) (H : Heap) (locs : List Loc) (ls : Array Slot), f_X8_when_b84 k_b41 house_wets house_guests_cells house_guests_rows house_host house_rooms house_night house_wheels bads l1 l2 l3 t0 t1 = some rv → sS D vwCl A s.heap (wd_X8_when cI cB cZ a_this a_house a_house_wets a_house_guests a_house_guests_cells a_house_sights a_house_remarks a_house_marks a_house_past a_spare a_image0 a_image1 a_script a_lineup a_wits house_wets house_guests_cells house_guests_rows house_host house_rooms house_night house_wheels house_turned kept0 kept1 above below_ bads nos fulls) H locs → lv_has ls 5 [(0, .ref a_this), (1, .int l1), (2, .int l2), (3, .int l3)] → W p l e rm_X8_when s m args below meth c H locs 0 0 Q (F0 m 84 ls [.int t0, .int t1, .ref a_house]) := by
  obtain ⟨hx, hb, hml, hown, hts, hK, hA⟩ := id C0
  have inX1 : ∀ w ∈ u_ws RX1 TX1 11, w ∈ wsX8_when := inX1_X8_when
  have inX8 : ∀ w ∈ u_ws RX8 TX8 14, w ∈ wsX8_when := inX8_X8_when
  intro bads l1 l2 l3 t0 t1 H locs ls h hS hl
  unfold f_X8_when_b84 at h
  obtain ⟨q1, hq1, h⟩ := s_bind h
  refine u_calliV (r := q1) (As := [.int t1, .int t0]) (rest := []) (wc := (wd_X1_letsPass cI cB cZ a_house a_house_wets a_house_guests a_house_sights a_house_remarks a_house_marks a_house_past house_host house_rooms house_night house_wheels house_turned)) hx hb hml hown hts hK hA hl hS (c_X1_letsPass l D cI cB cZ a_house a_house_wets a_house_guests a_house_sights a_house_remarks a_house_marks a_house_past house_host house_rooms house_night house_wheels house_turned t1 t0 _ _ hq1) (cwV 2 hts gX8_when_X1_letsPass rfl rfl rfl (by decide +kernel) ⟨Nat.le_of_ble_eq_true rfl, Nat.le_of_ble_eq_true rfl⟩) 1 rfl rfl [1] rfl rfl rfl rfl (Nat.le_of_ble_eq_true rfl) dX8_when_84 (fun H locs hS => ?_)
  refine lv_istore (lv' := [(4, .int q1), (0, .ref a_this), (1, .int l1), (2, .int l2), (3, .int l3)]) hx hb dX8_when_87 hl (by decide) rfl (fun ls hl => ?_)
  refine lv_aload_n hx hb dX8_when_89 rfl (lv_at hl 1 rfl) ?_
  refine s_get (C := RX8) (T := TX8) (N := 14) hx hb hts inX8 hown hK hS 0 rfl rfl 0 (by decide) (hts (.fieldLink RX8 10 "InnTurned" "house" "LInnTurned$House;") (List.mem_of_getElem? (i := 1) rfl)) rfl rfl dX8_when_90 ?_
  refine lv_iload_n hx hb dX8_when_93 rfl (lv_at hl 2 rfl) ?_
  refine lv_aload_n hx hb dX8_when_94 rfl (lv_at hl 1 rfl) ?_
  refine s_get (C := RX8) (T := TX8) (N := 14) hx hb hts inX8 hown hK hS 0 rfl rfl 0 (by decide) (hts (.fieldLink RX8 10 "InnTurned" "house" "LInnTurned$House;") (List.mem_of_getElem? (i := 1) rfl)) rfl rfl dX8_when_95 ?_
  refine s_getN (C := RX1) (T := TX1) (N := 11) hx hb hts inX1 hown hK hS 1 rfl rfl 1 (by decide) 7 rfl rfl rfl dX8_when_98 ?_
  refine lv_iload_n hx hb dX8_when_101 rfl (lv_at hl 2 rfl) ?_
  refine lv_iconst (v := (1 : Int32)) hx hb dX8_when_102 (by decide) ?_
  obtain ⟨q2, hq2, h⟩ := s_bind h
  refine u_calliV (r := q2) (As := [.int l1, .int (1 : Int32)]) (rest := [.int l1, .ref a_house]) (wc := (wd_X5_cell cI cB cZ a_house_guests a_house_guests_cells 28 (4 : Int32) (7 : Int32) house_guests_cells house_guests_rows)) hx hb hml hown hts hK hA hl hS (c_X5_cell l D cI cB cZ a_house_guests a_house_guests_cells 28 (4 : Int32) (7 : Int32) house_guests_cells house_guests_rows l1 (1 : Int32) _ _ hq2) (cwV 2 hts gX8_when_X5_cell rfl rfl rfl (by decide +kernel) ⟨Nat.le_of_ble_eq_true rfl, Nat.le_of_ble_eq_true rfl⟩) 3 rfl rfl [3, 4] rfl rfl rfl rfl (Nat.le_of_ble_eq_true rfl) dX8_when_103 (fun H locs hS => ?_)
  refine lv_aload_n hx hb dX8_when_106 rfl (lv_at hl 1 rfl) ?_
  refine s_get (C := RX8) (T := TX8) (N := 14) hx hb hts inX8 hown hK hS 0 rfl rfl 0 (by decide) (hts (.fieldLink RX8 10 "InnTurned" "house" "LInnTurned$House;") (List.mem_of_getElem? (i := 1) rfl)) rfl rfl dX8_when_107 ?_
  refine s_getN (C := RX1) (T := TX1) (N := 11) hx hb hts inX1 hown hK hS 1 rfl rfl 1 (by decide) 7 rfl rfl rfl dX8_when_110 ?_
  refine lv_iload_n hx hb dX8_when_113 rfl (lv_at hl 2 rfl) ?_
  refine lv_iconst (v := (2 : Int32)) hx hb dX8_when_114 (by decide) ?_
  obtain ⟨q3, hq3, h⟩ := s_bind h
  refine u_calliV (r := q3) (As := [.int l1, .int (2 : Int32)]) (rest := [.int q2, .int l1, .ref a_house]) (wc := (wd_X5_cell cI cB cZ a_house_guests a_house_guests_cells 28 (4 : Int32) (7 : Int32) house_guests_cells house_guests_rows)) hx hb hml hown hts hK hA hl hS (c_X5_cell l D cI cB cZ a_house_guests a_house_guests_cells 28 (4 : Int32) (7 : Int32) house_guests_cells house_guests_rows l1 (2 : Int32) _ _ hq3) (cwV 2 hts gX8_when_X5_cell rfl rfl rfl (by decide +kernel) ⟨Nat.le_of_ble_eq_true rfl, Nat.le_of_ble_eq_true rfl⟩) 3 rfl rfl [3, 4] rfl rfl rfl rfl (Nat.le_of_ble_eq_true rfl) dX8_when_115 (fun H locs hS => ?_)
  refine lv_iload_n hx hb dX8_when_118 rfl (lv_at hl 4 rfl) ?_
  obtain ⟨q4, hq4, h⟩ := s_bind h
  refine u_calliV (r := q4) (As := [.int l1, .int q2, .int q3, .int l3]) (rest := []) (wc := (wd_X1_likely cI cB cZ a_house a_house_wets a_house_guests a_house_guests_cells a_house_sights a_house_remarks a_house_marks a_house_past house_guests_cells house_guests_rows house_host house_rooms house_night house_wheels house_turned)) hx hb hml hown hts hK hA hl hS (c_X1_likely l D cI cB cZ a_house a_house_wets a_house_guests a_house_guests_cells a_house_sights a_house_remarks a_house_marks a_house_past house_guests_cells house_guests_rows house_host house_rooms house_night house_wheels house_turned l1 q2 q3 l3 _ _ hq4) (cwV 4 hts gX8_when_X1_likely rfl rfl rfl (by decide +kernel) ⟨Nat.le_of_ble_eq_true rfl, Nat.le_of_ble_eq_true rfl⟩) 1 rfl rfl [1, 3, 4] rfl rfl rfl rfl (Nat.le_of_ble_eq_true rfl) dX8_when_119 (fun H locs hS => ?_)
  refine lv_iload hx hb dX8_when_122 (lv_at hl 0 rfl) ?_
  refine lv_icmp_gt (tgt := 129) hx hb dX8_when_124 (by decide) (fun c5 => ?_) (fun c5 => ?_)
  · replace h := s_yes c5 h
    refine lv_iinc (v := (l2 + (1 : Int32))) (lv' := [(2, .int (l2 + (1 : Int32))), (4, .int q1), (0, .ref a_this), (1, .int l1), (3, .int l3)]) hx hb dX8_when_129 hl (k := 3) rfl rfl (by decide) rfl (fun ls hl => ?_)
    refine lv_goto (tgt := 41) hx hb dX8_when_132 (by decide) ?_
    exact hk_b41 bads l1 (l2 + (1 : Int32)) _ _ _ h hS (lv_sub hl [2, 3, 0] rfl)
  replace h := s_no c5 h
  refine lv_iload_n hx hb dX8_when_127 rfl (lv_at hl 3 rfl) ?_
  obtain rfl := Option.some.inj h
  exact hend _ _ _ _ dX8_when_128 hS
def f_X8_when_b41  (house_wets : (Nat → Int32)) (house_guests_cells : (Nat → Int32)) (house_guests_rows : Int32) (house_host : Int32) (house_rooms : Int32) (house_night : Int32) (house_wheels : Int32) : Nat → Int32 → Int32 → Int32 → Option (Int32 × Int32)
  | 0, _, _, _ => none
  | fu + 1, bads, l1, l2 => (if (60 : Int32) < l2 then some ((-1 : Int32), bads) else ((f_X1_wetOf house_wets (house_night + l2)).bind fun q7 => (if l2 = 0 then f_X8_when_b84 (f_X8_when_b41 house_wets house_guests_cells house_guests_rows house_host house_rooms house_night house_wheels fu) house_wets house_guests_cells house_guests_rows house_host house_rooms house_night house_wheels bads l1 l2 (house_night + l2) house_wheels q7 else f_X8_when_b84 (f_X8_when_b41 house_wets house_guests_cells house_guests_rows house_host house_rooms house_night house_wheels fu) house_wets house_guests_cells house_guests_rows house_host house_rooms house_night house_wheels bads l1 l2 (house_night + l2) (0 : Int32) q7)))
set_option maxHeartbeats 4000000 in
set_option maxRecDepth 100000 in
theorem w_X8_when_b41 {p : Program} {l : Launch} {e : Env} {s : State} {m : MethodId} {args : Array Value} {below : List Frame} {meth : Method} {c : Code} {A : Nat → Prop} {Q : State → Prop} {D : va_G} {cI cB cZ : ClassId} {a_this a_house a_house_wets a_house_guests a_house_guests_cells a_house_sights a_house_remarks a_house_marks a_house_past a_spare a_image0 a_image1 a_script a_lineup a_wits : Nat} {house_wets : (Nat → Int32)} {house_guests_cells : (Nat → Int32)} {house_guests_rows : Int32} {house_host : Int32} {house_rooms : Int32} {house_night : Int32} {house_wheels : Int32} {house_turned : Int32} {kept0 : Int32} {kept1 : Int32} {above : Int32} {below_ : Int32} {nos : Int32} {fulls : Int32} (C0 : Cx p s m args c cX8_when 5 RX8 wsX8_when D (s_tys cI cB cZ) A) {rv : Int32 × Int32} (hend : ∀ (pc : Nat) (H : Heap) (locs : List Loc) (ls : Array Slot), decode cX8_when pc = .ok (.ireturn, 1) → sS D vwCl A s.heap (wd_X8_when cI cB cZ a_this a_house a_house_wets a_house_guests a_house_guests_cells a_house_sights a_house_remarks a_house_marks a_house_past a_spare a_image0 a_image1 a_script a_lineup a_wits house_wets house_guests_cells house_guests_rows house_host house_rooms house_night house_wheels house_turned kept0 kept1 above below_ rv.2 nos fulls) H locs → W p l e rm_X8_when s m args below meth c H locs 0 0 Q (F0 m pc ls [.int rv.1])) : ∀ (fu : Nat) (bads : Int32) (l1 : Int32) (l2 : Int32) (H : Heap) (locs : List Loc) (ls : Array Slot), f_X8_when_b41 house_wets house_guests_cells house_guests_rows house_host house_rooms house_night house_wheels fu bads l1 l2 = some rv → sS D vwCl A s.heap (wd_X8_when cI cB cZ a_this a_house a_house_wets a_house_guests a_house_guests_cells a_house_sights a_house_remarks a_house_marks a_house_past a_spare a_image0 a_image1 a_script a_lineup a_wits house_wets house_guests_cells house_guests_rows house_host house_rooms house_night house_wheels house_turned kept0 kept1 above below_ bads nos fulls) H locs → lv_has ls 5 [(0, .ref a_this), (1, .int l1), (2, .int l2)] → W p l e rm_X8_when s m args below meth c H locs 0 0 Q (F0 m 41 ls []) := by
  obtain ⟨hx, hb, hml, hown, hts, hK, hA⟩ := id C0
  have inX1 : ∀ w ∈ u_ws RX1 TX1 11, w ∈ wsX8_when := inX1_X8_when
  have inX8 : ∀ w ∈ u_ws RX8 TX8 14, w ∈ wsX8_when := inX8_X8_when
  intro fu
  induction fu with
  | zero => intro bads l1 l2 H locs ls h; cases h
  | succ fu ih =>
    intro bads l1 l2 H locs ls h hS hl
    rw [f_X8_when_b41] at h
    refine lv_iload_n hx hb dX8_when_41 rfl (lv_at hl 2 rfl) ?_
    refine lv_bipush (v := (60 : Int32)) hx hb dX8_when_42 (by decide) ?_
    refine lv_icmp_gt (tgt := 135) hx hb dX8_when_44 (by decide) (fun c6 => ?_) (fun c6 => ?_)
    · replace h := s_yes c6 h
      refine lv_iconst (v := (-1 : Int32)) hx hb dX8_when_135 (by decide) ?_
      obtain rfl := Option.some.inj h
      exact hend _ _ _ _ dX8_when_136 hS
    replace h := s_no c6 h
    refine lv_aload_n hx hb dX8_when_47 rfl (lv_at hl 0 rfl) ?_
    refine s_get (C := RX8) (T := TX8) (N := 14) hx hb hts inX8 hown hK hS 0 rfl rfl 0 (by decide) (hts (.fieldLink RX8 10 "InnTurned" "house" "LInnTurned$House;") (List.mem_of_getElem? (i := 1) rfl)) rfl rfl dX8_when_48 ?_
    refine s_getN (C := RX1) (T := TX1) (N := 11) hx hb hts inX1 hown hK hS 1 rfl rfl 8 (by decide) 20 rfl rfl rfl dX8_when_51 ?_
    refine lv_iload_n hx hb dX8_when_54 rfl (lv_at hl 2 rfl) ?_
    refine lv_iadd hx hb dX8_when_55 ?_
    refine lv_istore_n (lv' := [(3, .int (house_night + l2)), (0, .ref a_this), (1, .int l1), (2, .int l2)]) hx hb dX8_when_56 rfl hl (by decide) rfl (fun ls hl => ?_)
    refine lv_aload_n hx hb dX8_when_57 rfl (lv_at hl 1 rfl) ?_
    refine s_get (C := RX8) (T := TX8) (N := 14) hx hb hts inX8 hown hK hS 0 rfl rfl 0 (by decide) (hts (.fieldLink RX8 10 "InnTurned" "house" "LInnTurned$House;") (List.mem_of_getElem? (i := 1) rfl)) rfl rfl dX8_when_58 ?_
    refine lv_aload_n hx hb dX8_when_61 rfl (lv_at hl 1 rfl) ?_
    refine s_get (C := RX8) (T := TX8) (N := 14) hx hb hts inX8 hown hK hS 0 rfl rfl 0 (by decide) (hts (.fieldLink RX8 10 "InnTurned" "house" "LInnTurned$House;") (List.mem_of_getElem? (i := 1) rfl)) rfl rfl dX8_when_62 ?_
    refine lv_iload_n hx hb dX8_when_65 rfl (lv_at hl 0 rfl) ?_
    obtain ⟨q7, hq7, h⟩ := s_bind h
    refine u_calliV (r := q7) (As := [.int (house_night + l2)]) (rest := [.ref a_house]) (wc := (wd_X1_wetOf cI cB cZ a_house a_house_wets a_house_guests a_house_sights a_house_remarks a_house_marks a_house_past house_wets house_host house_rooms house_night house_wheels house_turned)) hx hb hml hown hts hK hA hl hS (c_X1_wetOf l D cI cB cZ a_house a_house_wets a_house_guests a_house_sights a_house_remarks a_house_marks a_house_past house_wets house_host house_rooms house_night house_wheels house_turned (house_night + l2) _ _ hq7) (cwV 1 hts gX8_when_X1_wetOf rfl rfl rfl (by decide +kernel) ⟨Nat.le_of_ble_eq_true rfl, Nat.le_of_ble_eq_true rfl⟩) 1 rfl rfl [1, 2] rfl rfl rfl rfl (Nat.le_of_ble_eq_true rfl) dX8_when_66 (fun H locs hS => ?_)
    refine lv_iload_n hx hb dX8_when_69 rfl (lv_at hl 3 rfl) ?_
    refine lv_if_ne (tgt := 83) hx hb dX8_when_70 (by decide) (fun c8 => ?_) (fun c8 => ?_)
    · replace h := s_no c8 h
      refine lv_iconst (v := (0 : Int32)) hx hb dX8_when_83 (by decide) ?_
      exact w_X8_when_b84 C0 hend (f_X8_when_b41 house_wets house_guests_cells house_guests_rows house_host house_rooms house_night house_wheels fu) ih bads l1 l2 (house_night + l2) (0 : Int32) q7 _ _ _ h hS (lv_sub hl [1, 2, 3, 0] rfl)
    replace h := s_yes c8 h
    refine lv_aload_n hx hb dX8_when_73 rfl (lv_at hl 1 rfl) ?_
    refine s_get (C := RX8) (T := TX8) (N := 14) hx hb hts inX8 hown hK hS 0 rfl rfl 0 (by decide) (hts (.fieldLink RX8 10 "InnTurned" "house" "LInnTurned$House;") (List.mem_of_getElem? (i := 1) rfl)) rfl rfl dX8_when_74 ?_
    refine s_getN (C := RX1) (T := TX1) (N := 11) hx hb hts inX1 hown hK hS 1 rfl rfl 9 (by decide) 22 rfl rfl rfl dX8_when_77 ?_
    refine lv_goto (tgt := 84) hx hb dX8_when_80 (by decide) ?_
    exact w_X8_when_b84 C0 hend (f_X8_when_b41 house_wets house_guests_cells house_guests_rows house_host house_rooms house_night house_wheels fu) ih bads l1 l2 (house_night + l2) house_wheels q7 _ _ _ h hS (lv_sub hl [1, 2, 3, 0] rfl)
def f_X8_when  (house_wets : (Nat → Int32)) (house_guests_cells : (Nat → Int32)) (house_guests_rows : Int32) (house_host : Int32) (house_rooms : Int32) (house_night : Int32) (house_wheels : Int32) (bads : Int32) (p1 : Int32) : Option (Int32 × Int32) := ((f_X1_isThere house_guests_rows p1).bind fun q9 => (if q9 = 0 then ((f_X8_bad bads).bind fun q15 => some (q15.1, q15.2)) else ((f_X1_isIn house_guests_cells house_guests_rows p1).bind fun q11 => (if q11 = 0 then ((f_X1_hasRoom house_guests_cells house_guests_rows house_rooms).bind fun q13 => (if q13 = 0 then some ((-1 : Int32), bads) else f_X8_when_b41  house_wets house_guests_cells house_guests_rows house_host house_rooms house_night house_wheels s_fuel bads p1 (0 : Int32))) else some ((-1 : Int32), bads)))))
set_option maxHeartbeats 4000000 in
set_option maxRecDepth 100000 in
theorem c_X8_when (l : Launch) (D : va_G) (cI cB cZ : ClassId) (a_this : Nat) (a_house : Nat) (a_house_wets : Nat) (a_house_guests : Nat) (a_house_guests_cells : Nat) (a_house_sights : Nat) (a_house_remarks : Nat) (a_house_marks : Nat) (a_house_past : Nat) (a_spare : Nat) (a_image0 : Nat) (a_image1 : Nat) (a_script : Nat) (a_lineup : Nat) (a_wits : Nat) (house_wets : (Nat → Int32)) (house_guests_cells : (Nat → Int32)) (house_guests_rows : Int32) (house_host : Int32) (house_rooms : Int32) (house_night : Int32) (house_wheels : Int32) (house_turned : Int32) (kept0 : Int32) (kept1 : Int32) (above : Int32) (below_ : Int32) (bads : Int32) (nos : Int32) (fulls : Int32) (p1 : Int32) (rv : Int32 × Int32) (sz : Nat) (hf : f_X8_when house_wets house_guests_cells house_guests_rows house_host house_rooms house_night house_wheels bads p1 = some rv) : Met l yX8_when wsX8_when rm_X8_when (sPc D vwCl (s_tys cI cB cZ) [.ref a_this, .int p1] (wd_X8_when cI cB cZ a_this a_house a_house_wets a_house_guests a_house_guests_cells a_house_sights a_house_remarks a_house_marks a_house_past a_spare a_image0 a_image1 a_script a_lineup a_wits house_wets house_guests_cells house_guests_rows house_host house_rooms house_night house_wheels house_turned kept0 kept1 above below_ bads nos fulls) sz) (sQi D vwCl (wd_X8_when cI cB cZ a_this a_house a_house_wets a_house_guests a_house_guests_cells a_house_sights a_house_remarks a_house_marks a_house_past a_spare a_image0 a_image1 a_script a_lineup a_wits house_wets house_guests_cells house_guests_rows house_host house_rooms house_night house_wheels house_turned kept0 kept1 above below_ bads nos fulls) (wd_X8_when cI cB cZ a_this a_house a_house_wets a_house_guests a_house_guests_cells a_house_sights a_house_remarks a_house_marks a_house_past a_spare a_image0 a_image1 a_script a_lineup a_wits house_wets house_guests_cells house_guests_rows house_host house_rooms house_night house_wheels house_turned kept0 kept1 above below_ rv.2 nos fulls) sz rv.1) 0 0 (va_A (wd_X8_when cI cB cZ a_this a_house a_house_wets a_house_guests a_house_guests_cells a_house_sights a_house_remarks a_house_marks a_house_past a_spare a_image0 a_image1 a_script a_lineup a_wits house_wets house_guests_cells house_guests_rows house_host house_rooms house_night house_wheels house_turned kept0 kept1 above below_ bads nos fulls) sz) := by
  refine s_enter_n (cc := cX8_when) (nL := 5) (r := rv.1) (by decide) rfl (Nat.le_of_ble_eq_true rfl) ?_
  intro p e s m args below meth c A Q C0 hend ls hl hS
  have h := hf
  clear hf
  replace hl : lv_has ls 5 [(0, .ref a_this), (1, .int p1)] := hl
  unfold f_X8_when at h
  obtain ⟨hx, hb, hml, hown, hts, hK, hA⟩ := id C0
  have inX1 : ∀ w ∈ u_ws RX1 TX1 11, w ∈ wsX8_when := inX1_X8_when
  have inX8 : ∀ w ∈ u_ws RX8 TX8 14, w ∈ wsX8_when := inX8_X8_when
  refine lv_aload_n hx hb dX8_when_0 rfl (lv_at hl 0 rfl) ?_
  refine s_get (C := RX8) (T := TX8) (N := 14) hx hb hts inX8 hown hK hS 0 rfl rfl 0 (by decide) (hts (.fieldLink RX8 10 "InnTurned" "house" "LInnTurned$House;") (List.mem_of_getElem? (i := 1) rfl)) rfl rfl dX8_when_1 ?_
  refine lv_iload_n hx hb dX8_when_4 rfl (lv_at hl 1 rfl) ?_
  obtain ⟨q9, hq9, h⟩ := s_bind h
  refine u_calliV (r := q9) (As := [.int p1]) (rest := []) (wc := (wd_X1_isThere cI cB cZ a_house a_house_wets a_house_guests a_house_guests_cells a_house_sights a_house_remarks a_house_marks a_house_past house_guests_rows house_host house_rooms house_night house_wheels house_turned)) hx hb hml hown hts hK hA hl hS (c_X1_isThere l D cI cB cZ a_house a_house_wets a_house_guests a_house_guests_cells a_house_sights a_house_remarks a_house_marks a_house_past house_guests_rows house_host house_rooms house_night house_wheels house_turned p1 _ _ hq9) (cwV 1 hts gX8_when_X1_isThere rfl rfl rfl (by decide +kernel) ⟨Nat.le_of_ble_eq_true rfl, Nat.le_of_ble_eq_true rfl⟩) 1 rfl rfl [1, 3] rfl rfl rfl rfl (Nat.le_of_ble_eq_true rfl) dX8_when_5 (fun H locs hS => ?_)
  refine lv_if_ne (tgt := 16) hx hb dX8_when_8 (by decide) (fun c10 => ?_) (fun c10 => ?_)
  · replace h := s_no c10 h
    refine lv_aload_n hx hb dX8_when_16 rfl (lv_at hl 0 rfl) ?_
    refine s_get (C := RX8) (T := TX8) (N := 14) hx hb hts inX8 hown hK hS 0 rfl rfl 0 (by decide) (hts (.fieldLink RX8 10 "InnTurned" "house" "LInnTurned$House;") (List.mem_of_getElem? (i := 1) rfl)) rfl rfl dX8_when_17 ?_
    refine lv_iload_n hx hb dX8_when_20 rfl (lv_at hl 1 rfl) ?_
    obtain ⟨q11, hq11, h⟩ := s_bind h
    refine u_calliV (r := q11) (As := [.int p1]) (rest := []) (wc := (wd_X1_isIn cI cB cZ a_house a_house_wets a_house_guests a_house_guests_cells a_house_sights a_house_remarks a_house_marks a_house_past house_guests_cells house_guests_rows house_host house_rooms house_night house_wheels house_turned)) hx hb hml hown hts hK hA hl hS (c_X1_isIn l D cI cB cZ a_house a_house_wets a_house_guests a_house_guests_cells a_house_sights a_house_remarks a_house_marks a_house_past house_guests_cells house_guests_rows house_host house_rooms house_night house_wheels house_turned p1 _ _ hq11) (cwV 1 hts gX8_when_X1_isIn rfl rfl rfl (by decide +kernel) ⟨Nat.le_of_ble_eq_true rfl, Nat.le_of_ble_eq_true rfl⟩) 1 rfl rfl [1, 3, 4] rfl rfl rfl rfl (Nat.le_of_ble_eq_true rfl) dX8_when_21 (fun H locs hS => ?_)
    refine lv_if_ne (tgt := 37) hx hb dX8_when_24 (by decide) (fun c12 => ?_) (fun c12 => ?_)
    · replace h := s_no c12 h
      refine lv_iconst (v := (-1 : Int32)) hx hb dX8_when_37 (by decide) ?_
      obtain rfl := Option.some.inj h
      exact hend _ _ _ _ dX8_when_38 hS
    replace h := s_yes c12 h
    refine lv_aload_n hx hb dX8_when_27 rfl (lv_at hl 0 rfl) ?_
    refine s_get (C := RX8) (T := TX8) (N := 14) hx hb hts inX8 hown hK hS 0 rfl rfl 0 (by decide) (hts (.fieldLink RX8 10 "InnTurned" "house" "LInnTurned$House;") (List.mem_of_getElem? (i := 1) rfl)) rfl rfl dX8_when_28 ?_
    obtain ⟨q13, hq13, h⟩ := s_bind h
    refine u_calliV (r := q13) (As := []) (rest := []) (wc := (wd_X1_hasRoom cI cB cZ a_house a_house_wets a_house_guests a_house_guests_cells a_house_sights a_house_remarks a_house_marks a_house_past house_guests_cells house_guests_rows house_host house_rooms house_night house_wheels house_turned)) hx hb hml hown hts hK hA hl hS (c_X1_hasRoom l D cI cB cZ a_house a_house_wets a_house_guests a_house_guests_cells a_house_sights a_house_remarks a_house_marks a_house_past house_guests_cells house_guests_rows house_host house_rooms house_night house_wheels house_turned _ _ hq13) (cwV 0 hts gX8_when_X1_hasRoom rfl rfl rfl (by decide +kernel) ⟨Nat.le_of_ble_eq_true rfl, Nat.le_of_ble_eq_true rfl⟩) 1 rfl rfl [1, 3, 4] rfl rfl rfl rfl (Nat.le_of_ble_eq_true rfl) dX8_when_31 (fun H locs hS => ?_)
    refine lv_if_ne (tgt := 39) hx hb dX8_when_34 (by decide) (fun c14 => ?_) (fun c14 => ?_)
    · replace h := s_no c14 h
      refine lv_iconst (v := (0 : Int32)) hx hb dX8_when_39 (by decide) ?_
      refine lv_istore_n (lv' := [(2, .int (0 : Int32)), (0, .ref a_this), (1, .int p1)]) hx hb dX8_when_40 rfl hl (by decide) rfl (fun ls hl => ?_)
      exact w_X8_when_b41 C0 hend  s_fuel bads p1 (0 : Int32) _ _ _ h hS (lv_sub hl [1, 2, 0] rfl)
    replace h := s_yes c14 h
    refine lv_iconst (v := (-1 : Int32)) hx hb dX8_when_37 (by decide) ?_
    obtain rfl := Option.some.inj h
    exact hend _ _ _ _ dX8_when_38 hS
  replace h := s_yes c10 h
  refine lv_aload_n hx hb dX8_when_11 rfl (lv_at hl 0 rfl) ?_
  obtain ⟨q15, hq15, h⟩ := s_bind h
  refine r_calliV (r := q15.1) (As := []) (rest := []) (wc := (wd_X8_bad cI cB cZ a_this a_house a_spare a_image0 a_image1 a_script a_lineup a_wits kept0 kept1 above below_ bads nos fulls)) (w1 := (wd_X8_bad cI cB cZ a_this a_house a_spare a_image0 a_image1 a_script a_lineup a_wits kept0 kept1 above below_ q15.2 nos fulls)) (ws' := (wd_X8_when cI cB cZ a_this a_house a_house_wets a_house_guests a_house_guests_cells a_house_sights a_house_remarks a_house_marks a_house_past a_spare a_image0 a_image1 a_script a_lineup a_wits house_wets house_guests_cells house_guests_rows house_host house_rooms house_night house_wheels house_turned kept0 kept1 above below_ q15.2 nos fulls)) hx hb hml hown hts hK hA hl hS (c_X8_bad l D cI cB cZ a_this a_house a_spare a_image0 a_image1 a_script a_lineup a_wits kept0 kept1 above below_ bads nos fulls _ _ hq15) (cwV 0 hts gX8_when_X8_bad rfl rfl rfl (by decide +kernel) ⟨Nat.le_of_ble_eq_true rfl, Nat.le_of_ble_eq_true rfl⟩) 0 rfl rfl [0] rfl rfl rfl [.inr 0, .inl 1, .inl 2, .inl 3, .inl 4] rfl rfl rfl rfl (Nat.le_of_ble_eq_true rfl) dX8_when_12 (fun H locs hS => ?_)
  obtain rfl := Option.some.inj h
  exact hend _ _ _ _ dX8_when_15 hS

-- InnTurned.pen(I)I
def wd_X8_pen (cI cB cZ : ClassId) (a_this : Nat) (a_house : Nat) (a_house_wets : Nat) (a_house_guests : Nat) (a_house_guests_cells : Nat) (a_house_sights : Nat) (a_house_remarks : Nat) (a_house_marks : Nat) (a_house_past : Nat) (a_spare : Nat) (a_image0 : Nat) (a_image1 : Nat) (a_script : Nat) (a_lineup : Nat) (a_wits : Nat)  (house_wets : (Nat → Int32)) (house_guests_cells : (Nat → Int32)) (house_guests_rows : Int32) (house_host : Int32) (house_rooms : Int32) (house_night : Int32) (house_wheels : Int32) (house_turned : Int32) (kept0 : Int32) (kept1 : Int32) (above : Int32) (below_ : Int32) (bads : Int32) (nos : Int32) (fulls : Int32) : va_W := [(a_this, .inr (5, [.ref a_house, .ref a_spare, .ref a_image0, .ref a_image1, .ref a_script, .ref a_lineup, .ref a_wits, .int kept0, .int kept1, .int above, .int below_, .int bads, .int nos, .int fulls])), (a_house, .inr (0, [.ref a_house_wets, .ref a_house_guests, .ref a_house_sights, .ref a_house_remarks, .ref a_house_marks, .ref a_house_past, .int house_host, .int house_rooms, .int house_night, .int house_wheels, .int house_turned])), (a_house_wets, .inl (cI, 6, .inl house_wets)), (a_house_guests, .inr (3, [.int 4, .int 7, .ref a_house_guests_cells, .int house_guests_rows])), (a_house_guests_cells, .inl (cI, 28, .inl house_guests_cells))]
abbrev rm_X8_pen : Room := { frames := 3, cells := 0, slots := 0, locals := 65 }
set_option maxRecDepth 20000 in
theorem inX1_X8_pen : ∀ w ∈ u_ws RX1 TX1 11, w ∈ wsX8_pen := by decide +kernel
set_option maxRecDepth 20000 in
theorem inX8_X8_pen : ∀ w ∈ u_ws RX8 TX8 14, w ∈ wsX8_pen := by decide +kernel
def f_X8_pen_b42  (house_wets : (Nat → Int32)) (house_guests_cells : (Nat → Int32)) (house_guests_rows : Int32) (house_host : Int32) (house_rooms : Int32) (house_night : Int32) (house_wheels : Int32) : Nat → Int32 → Int32 → Int32 → Option (Int32 × Int32)
  | 0, _, _, _ => none
  | fu + 1, bads, l1, l2 => (if l2 < 0 then some ((-1 : Int32), bads) else ((f_X5_cell 28 (4 : Int32) house_guests_cells house_guests_rows l1 (2 : Int32)).bind fun q2 => ((f_X1_likely house_guests_cells house_guests_rows l1 l2 q2 house_night).bind fun q3 => ((f_X1_letsNow house_wets house_host house_night house_wheels).bind fun q4 => (if q4 < q3 then (f_X8_pen_b42 house_wets house_guests_cells house_guests_rows house_host house_rooms house_night house_wheels fu) bads l1 (l2 + (-1 : Int32)) else some (l2, bads))))))
set_option maxHeartbeats 4000000 in
set_option maxRecDepth 100000 in
theorem w_X8_pen_b42 {p : Program} {l : Launch} {e : Env} {s : State} {m : MethodId} {args : Array Value} {below : List Frame} {meth : Method} {c : Code} {A : Nat → Prop} {Q : State → Prop} {D : va_G} {cI cB cZ : ClassId} {a_this a_house a_house_wets a_house_guests a_house_guests_cells a_house_sights a_house_remarks a_house_marks a_house_past a_spare a_image0 a_image1 a_script a_lineup a_wits : Nat} {house_wets : (Nat → Int32)} {house_guests_cells : (Nat → Int32)} {house_guests_rows : Int32} {house_host : Int32} {house_rooms : Int32} {house_night : Int32} {house_wheels : Int32} {house_turned : Int32} {kept0 : Int32} {kept1 : Int32} {above : Int32} {below_ : Int32} {nos : Int32} {fulls : Int32} (C0 : Cx p s m args c cX8_pen 3 RX8 wsX8_pen D (s_tys cI cB cZ) A) {rv : Int32 × Int32} (hend : ∀ (pc : Nat) (H : Heap) (locs : List Loc) (ls : Array Slot), decode cX8_pen pc = .ok (.ireturn, 1) → sS D vwCl A s.heap (wd_X8_pen cI cB cZ a_this a_house a_house_wets a_house_guests a_house_guests_cells a_house_sights a_house_remarks a_house_marks a_house_past a_spare a_image0 a_image1 a_script a_lineup a_wits house_wets house_guests_cells house_guests_rows house_host house_rooms house_night house_wheels house_turned kept0 kept1 above below_ rv.2 nos fulls) H locs → W p l e rm_X8_pen s m args below meth c H locs 0 0 Q (F0 m pc ls [.int rv.1])) : ∀ (fu : Nat) (bads : Int32) (l1 : Int32) (l2 : Int32) (H : Heap) (locs : List Loc) (ls : Array Slot), f_X8_pen_b42 house_wets house_guests_cells house_guests_rows house_host house_rooms house_night house_wheels fu bads l1 l2 = some rv → sS D vwCl A s.heap (wd_X8_pen cI cB cZ a_this a_house a_house_wets a_house_guests a_house_guests_cells a_house_sights a_house_remarks a_house_marks a_house_past a_spare a_image0 a_image1 a_script a_lineup a_wits house_wets house_guests_cells house_guests_rows house_host house_rooms house_night house_wheels house_turned kept0 kept1 above below_ bads nos fulls) H locs → lv_has ls 3 [(0, .ref a_this), (1, .int l1), (2, .int l2)] → W p l e rm_X8_pen s m args below meth c H locs 0 0 Q (F0 m 42 ls []) := by
  obtain ⟨hx, hb, hml, hown, hts, hK, hA⟩ := id C0
  have inX1 : ∀ w ∈ u_ws RX1 TX1 11, w ∈ wsX8_pen := inX1_X8_pen
  have inX8 : ∀ w ∈ u_ws RX8 TX8 14, w ∈ wsX8_pen := inX8_X8_pen
  intro fu
  induction fu with
  | zero => intro bads l1 l2 H locs ls h; cases h
  | succ fu ih =>
    intro bads l1 l2 H locs ls h hS hl
    rw [f_X8_pen_b42] at h
    refine lv_iload_n hx hb dX8_pen_42 rfl (lv_at hl 2 rfl) ?_
    refine lv_if_lt (tgt := 92) hx hb dX8_pen_43 (by decide) (fun c1 => ?_) (fun c1 => ?_)
    · replace h := s_yes c1 h
      refine lv_iconst (v := (-1 : Int32)) hx hb dX8_pen_92 (by decide) ?_
      obtain rfl := Option.some.inj h
      exact hend _ _ _ _ dX8_pen_93 hS
    replace h := s_no c1 h
    refine lv_aload_n hx hb dX8_pen_46 rfl (lv_at hl 0 rfl) ?_
    refine s_get (C := RX8) (T := TX8) (N := 14) hx hb hts inX8 hown hK hS 0 rfl rfl 0 (by decide) (hts (.fieldLink RX8 10 "InnTurned" "house" "LInnTurned$House;") (List.mem_of_getElem? (i := 1) rfl)) rfl rfl dX8_pen_47 ?_
    refine lv_iload_n hx hb dX8_pen_50 rfl (lv_at hl 1 rfl) ?_
    refine lv_iload_n hx hb dX8_pen_51 rfl (lv_at hl 2 rfl) ?_
    refine lv_aload_n hx hb dX8_pen_52 rfl (lv_at hl 0 rfl) ?_
    refine s_get (C := RX8) (T := TX8) (N := 14) hx hb hts inX8 hown hK hS 0 rfl rfl 0 (by decide) (hts (.fieldLink RX8 10 "InnTurned" "house" "LInnTurned$House;") (List.mem_of_getElem? (i := 1) rfl)) rfl rfl dX8_pen_53 ?_
    refine s_getN (C := RX1) (T := TX1) (N := 11) hx hb hts inX1 hown hK hS 1 rfl rfl 1 (by decide) 7 rfl rfl rfl dX8_pen_56 ?_
    refine lv_iload_n hx hb dX8_pen_59 rfl (lv_at hl 1 rfl) ?_
    refine lv_iconst (v := (2 : Int32)) hx hb dX8_pen_60 (by decide) ?_
    obtain ⟨q2, hq2, h⟩ := s_bind h
    refine u_calliV (r := q2) (As := [.int l1, .int (2 : Int32)]) (rest := [.int l2, .int l1, .ref a_house]) (wc := (wd_X5_cell cI cB cZ a_house_guests a_house_guests_cells 28 (4 : Int32) (7 : Int32) house_guests_cells house_guests_rows)) hx hb hml hown hts hK hA hl hS (c_X5_cell l D cI cB cZ a_house_guests a_house_guests_cells 28 (4 : Int32) (7 : Int32) house_guests_cells house_guests_rows l1 (2 : Int32) _ _ hq2) (cwV 2 hts gX8_pen_X5_cell rfl rfl rfl (by decide +kernel) ⟨Nat.le_of_ble_eq_true rfl, Nat.le_of_ble_eq_true rfl⟩) 3 rfl rfl [3, 4] rfl rfl rfl rfl (Nat.le_of_ble_eq_true rfl) dX8_pen_61 (fun H locs hS => ?_)
    refine lv_aload_n hx hb dX8_pen_64 rfl (lv_at hl 0 rfl) ?_
    refine s_get (C := RX8) (T := TX8) (N := 14) hx hb hts inX8 hown hK hS 0 rfl rfl 0 (by decide) (hts (.fieldLink RX8 10 "InnTurned" "house" "LInnTurned$House;") (List.mem_of_getElem? (i := 1) rfl)) rfl rfl dX8_pen_65 ?_
    refine s_getN (C := RX1) (T := TX1) (N := 11) hx hb hts inX1 hown hK hS 1 rfl rfl 8 (by decide) 20 rfl rfl rfl dX8_pen_68 ?_
    obtain ⟨q3, hq3, h⟩ := s_bind h
    refine u_calliV (r := q3) (As := [.int l1, .int l2, .int q2, .int house_night]) (rest := []) (wc := (wd_X1_likely cI cB cZ a_house a_house_wets a_house_guests a_house_guests_cells a_house_sights a_house_remarks a_house_marks a_house_past house_guests_cells house_guests_rows house_host house_rooms house_night house_wheels house_turned)) hx hb hml hown hts hK hA hl hS (c_X1_likely l D cI cB cZ a_house a_house_wets a_house_guests a_house_guests_cells a_house_sights a_house_remarks a_house_marks a_house_past house_guests_cells house_guests_rows house_host house_rooms house_night house_wheels house_turned l1 l2 q2 house_night _ _ hq3) (cwV 4 hts gX8_pen_X1_likely rfl rfl rfl (by decide +kernel) ⟨Nat.le_of_ble_eq_true rfl, Nat.le_of_ble_eq_true rfl⟩) 1 rfl rfl [1, 3, 4] rfl rfl rfl rfl (Nat.le_of_ble_eq_true rfl) dX8_pen_71 (fun H locs hS => ?_)
    refine lv_aload_n hx hb dX8_pen_74 rfl (lv_at hl 0 rfl) ?_
    refine s_get (C := RX8) (T := TX8) (N := 14) hx hb hts inX8 hown hK hS 0 rfl rfl 0 (by decide) (hts (.fieldLink RX8 10 "InnTurned" "house" "LInnTurned$House;") (List.mem_of_getElem? (i := 1) rfl)) rfl rfl dX8_pen_75 ?_
    obtain ⟨q4, hq4, h⟩ := s_bind h
    refine u_calliV (r := q4) (As := []) (rest := [.int q3]) (wc := (wd_X1_letsNow cI cB cZ a_house a_house_wets a_house_guests a_house_sights a_house_remarks a_house_marks a_house_past house_wets house_host house_rooms house_night house_wheels house_turned)) hx hb hml hown hts hK hA hl hS (c_X1_letsNow l D cI cB cZ a_house a_house_wets a_house_guests a_house_sights a_house_remarks a_house_marks a_house_past house_wets house_host house_rooms house_night house_wheels house_turned _ _ hq4) (cwV 0 hts gX8_pen_X1_letsNow rfl rfl rfl (by decide +kernel) ⟨Nat.le_of_ble_eq_true rfl, Nat.le_of_ble_eq_true rfl⟩) 1 rfl rfl [1, 2] rfl rfl rfl rfl (Nat.le_of_ble_eq_true rfl) dX8_pen_78 (fun H locs hS => ?_)
    refine lv_icmp_gt (tgt := 86) hx hb dX8_pen_81 (by decide) (fun c5 => ?_) (fun c5 => ?_)
    · replace h := s_yes c5 h
      refine lv_iinc (v := (l2 + (-1 : Int32))) (lv' := [(2, .int (l2 + (-1 : Int32))), (0, .ref a_this), (1, .int l1)]) hx hb dX8_pen_86 hl (k := 2) rfl rfl (by decide) rfl (fun ls hl => ?_)
      refine lv_goto (tgt := 42) hx hb dX8_pen_89 (by decide) ?_
      exact ih bads l1 (l2 + (-1 : Int32)) _ _ _ h hS (lv_sub hl [1, 2, 0] rfl)
    replace h := s_no c5 h
    refine lv_iload_n hx hb dX8_pen_84 rfl (lv_at hl 2 rfl) ?_
    obtain rfl := Option.some.inj h
    exact hend _ _ _ _ dX8_pen_85 hS
def f_X8_pen  (house_wets : (Nat → Int32)) (house_guests_cells : (Nat → Int32)) (house_guests_rows : Int32) (house_host : Int32) (house_rooms : Int32) (house_night : Int32) (house_wheels : Int32) (bads : Int32) (p1 : Int32) : Option (Int32 × Int32) := ((f_X1_isThere house_guests_rows p1).bind fun q6 => (if q6 = 0 then ((f_X8_bad bads).bind fun q12 => some (q12.1, q12.2)) else ((f_X1_isIn house_guests_cells house_guests_rows p1).bind fun q8 => (if q8 = 0 then ((f_X1_hasRoom house_guests_cells house_guests_rows house_rooms).bind fun q10 => (if q10 = 0 then some ((-1 : Int32), bads) else f_X8_pen_b42  house_wets house_guests_cells house_guests_rows house_host house_rooms house_night house_wheels s_fuel bads p1 (9 : Int32))) else some ((-1 : Int32), bads)))))
set_option maxHeartbeats 4000000 in
set_option maxRecDepth 100000 in
theorem c_X8_pen (l : Launch) (D : va_G) (cI cB cZ : ClassId) (a_this : Nat) (a_house : Nat) (a_house_wets : Nat) (a_house_guests : Nat) (a_house_guests_cells : Nat) (a_house_sights : Nat) (a_house_remarks : Nat) (a_house_marks : Nat) (a_house_past : Nat) (a_spare : Nat) (a_image0 : Nat) (a_image1 : Nat) (a_script : Nat) (a_lineup : Nat) (a_wits : Nat) (house_wets : (Nat → Int32)) (house_guests_cells : (Nat → Int32)) (house_guests_rows : Int32) (house_host : Int32) (house_rooms : Int32) (house_night : Int32) (house_wheels : Int32) (house_turned : Int32) (kept0 : Int32) (kept1 : Int32) (above : Int32) (below_ : Int32) (bads : Int32) (nos : Int32) (fulls : Int32) (p1 : Int32) (rv : Int32 × Int32) (sz : Nat) (hf : f_X8_pen house_wets house_guests_cells house_guests_rows house_host house_rooms house_night house_wheels bads p1 = some rv) : Met l yX8_pen wsX8_pen rm_X8_pen (sPc D vwCl (s_tys cI cB cZ) [.ref a_this, .int p1] (wd_X8_pen cI cB cZ a_this a_house a_house_wets a_house_guests a_house_guests_cells a_house_sights a_house_remarks a_house_marks a_house_past a_spare a_image0 a_image1 a_script a_lineup a_wits house_wets house_guests_cells house_guests_rows house_host house_rooms house_night house_wheels house_turned kept0 kept1 above below_ bads nos fulls) sz) (sQi D vwCl (wd_X8_pen cI cB cZ a_this a_house a_house_wets a_house_guests a_house_guests_cells a_house_sights a_house_remarks a_house_marks a_house_past a_spare a_image0 a_image1 a_script a_lineup a_wits house_wets house_guests_cells house_guests_rows house_host house_rooms house_night house_wheels house_turned kept0 kept1 above below_ bads nos fulls) (wd_X8_pen cI cB cZ a_this a_house a_house_wets a_house_guests a_house_guests_cells a_house_sights a_house_remarks a_house_marks a_house_past a_spare a_image0 a_image1 a_script a_lineup a_wits house_wets house_guests_cells house_guests_rows house_host house_rooms house_night house_wheels house_turned kept0 kept1 above below_ rv.2 nos fulls) sz rv.1) 0 0 (va_A (wd_X8_pen cI cB cZ a_this a_house a_house_wets a_house_guests a_house_guests_cells a_house_sights a_house_remarks a_house_marks a_house_past a_spare a_image0 a_image1 a_script a_lineup a_wits house_wets house_guests_cells house_guests_rows house_host house_rooms house_night house_wheels house_turned kept0 kept1 above below_ bads nos fulls) sz) := by
  refine s_enter_n (cc := cX8_pen) (nL := 3) (r := rv.1) (by decide) rfl (Nat.le_of_ble_eq_true rfl) ?_
  intro p e s m args below meth c A Q C0 hend ls hl hS
  have h := hf
  clear hf
  replace hl : lv_has ls 3 [(0, .ref a_this), (1, .int p1)] := hl
  unfold f_X8_pen at h
  obtain ⟨hx, hb, hml, hown, hts, hK, hA⟩ := id C0
  have inX1 : ∀ w ∈ u_ws RX1 TX1 11, w ∈ wsX8_pen := inX1_X8_pen
  have inX8 : ∀ w ∈ u_ws RX8 TX8 14, w ∈ wsX8_pen := inX8_X8_pen
  refine lv_aload_n hx hb dX8_pen_0 rfl (lv_at hl 0 rfl) ?_
  refine s_get (C := RX8) (T := TX8) (N := 14) hx hb hts inX8 hown hK hS 0 rfl rfl 0 (by decide) (hts (.fieldLink RX8 10 "InnTurned" "house" "LInnTurned$House;") (List.mem_of_getElem? (i := 1) rfl)) rfl rfl dX8_pen_1 ?_
  refine lv_iload_n hx hb dX8_pen_4 rfl (lv_at hl 1 rfl) ?_
  obtain ⟨q6, hq6, h⟩ := s_bind h
  refine u_calliV (r := q6) (As := [.int p1]) (rest := []) (wc := (wd_X1_isThere cI cB cZ a_house a_house_wets a_house_guests a_house_guests_cells a_house_sights a_house_remarks a_house_marks a_house_past house_guests_rows house_host house_rooms house_night house_wheels house_turned)) hx hb hml hown hts hK hA hl hS (c_X1_isThere l D cI cB cZ a_house a_house_wets a_house_guests a_house_guests_cells a_house_sights a_house_remarks a_house_marks a_house_past house_guests_rows house_host house_rooms house_night house_wheels house_turned p1 _ _ hq6) (cwV 1 hts gX8_pen_X1_isThere rfl rfl rfl (by decide +kernel) ⟨Nat.le_of_ble_eq_true rfl, Nat.le_of_ble_eq_true rfl⟩) 1 rfl rfl [1, 3] rfl rfl rfl rfl (Nat.le_of_ble_eq_true rfl) dX8_pen_5 (fun H locs hS => ?_)
  refine lv_if_ne (tgt := 16) hx hb dX8_pen_8 (by decide) (fun c7 => ?_) (fun c7 => ?_)
  · replace h := s_no c7 h
    refine lv_aload_n hx hb dX8_pen_16 rfl (lv_at hl 0 rfl) ?_
    refine s_get (C := RX8) (T := TX8) (N := 14) hx hb hts inX8 hown hK hS 0 rfl rfl 0 (by decide) (hts (.fieldLink RX8 10 "InnTurned" "house" "LInnTurned$House;") (List.mem_of_getElem? (i := 1) rfl)) rfl rfl dX8_pen_17 ?_
    refine lv_iload_n hx hb dX8_pen_20 rfl (lv_at hl 1 rfl) ?_
    obtain ⟨q8, hq8, h⟩ := s_bind h
    refine u_calliV (r := q8) (As := [.int p1]) (rest := []) (wc := (wd_X1_isIn cI cB cZ a_house a_house_wets a_house_guests a_house_guests_cells a_house_sights a_house_remarks a_house_marks a_house_past house_guests_cells house_guests_rows house_host house_rooms house_night house_wheels house_turned)) hx hb hml hown hts hK hA hl hS (c_X1_isIn l D cI cB cZ a_house a_house_wets a_house_guests a_house_guests_cells a_house_sights a_house_remarks a_house_marks a_house_past house_guests_cells house_guests_rows house_host house_rooms house_night house_wheels house_turned p1 _ _ hq8) (cwV 1 hts gX8_pen_X1_isIn rfl rfl rfl (by decide +kernel) ⟨Nat.le_of_ble_eq_true rfl, Nat.le_of_ble_eq_true rfl⟩) 1 rfl rfl [1, 3, 4] rfl rfl rfl rfl (Nat.le_of_ble_eq_true rfl) dX8_pen_21 (fun H locs hS => ?_)
    refine lv_if_ne (tgt := 37) hx hb dX8_pen_24 (by decide) (fun c9 => ?_) (fun c9 => ?_)
    · replace h := s_no c9 h
      refine lv_iconst (v := (-1 : Int32)) hx hb dX8_pen_37 (by decide) ?_
      obtain rfl := Option.some.inj h
      exact hend _ _ _ _ dX8_pen_38 hS
    replace h := s_yes c9 h
    refine lv_aload_n hx hb dX8_pen_27 rfl (lv_at hl 0 rfl) ?_
    refine s_get (C := RX8) (T := TX8) (N := 14) hx hb hts inX8 hown hK hS 0 rfl rfl 0 (by decide) (hts (.fieldLink RX8 10 "InnTurned" "house" "LInnTurned$House;") (List.mem_of_getElem? (i := 1) rfl)) rfl rfl dX8_pen_28 ?_
    obtain ⟨q10, hq10, h⟩ := s_bind h
    refine u_calliV (r := q10) (As := []) (rest := []) (wc := (wd_X1_hasRoom cI cB cZ a_house a_house_wets a_house_guests a_house_guests_cells a_house_sights a_house_remarks a_house_marks a_house_past house_guests_cells house_guests_rows house_host house_rooms house_night house_wheels house_turned)) hx hb hml hown hts hK hA hl hS (c_X1_hasRoom l D cI cB cZ a_house a_house_wets a_house_guests a_house_guests_cells a_house_sights a_house_remarks a_house_marks a_house_past house_guests_cells house_guests_rows house_host house_rooms house_night house_wheels house_turned _ _ hq10) (cwV 0 hts gX8_pen_X1_hasRoom rfl rfl rfl (by decide +kernel) ⟨Nat.le_of_ble_eq_true rfl, Nat.le_of_ble_eq_true rfl⟩) 1 rfl rfl [1, 3, 4] rfl rfl rfl rfl (Nat.le_of_ble_eq_true rfl) dX8_pen_31 (fun H locs hS => ?_)
    refine lv_if_ne (tgt := 39) hx hb dX8_pen_34 (by decide) (fun c11 => ?_) (fun c11 => ?_)
    · replace h := s_no c11 h
      refine lv_bipush (v := (9 : Int32)) hx hb dX8_pen_39 (by decide) ?_
      refine lv_istore_n (lv' := [(2, .int (9 : Int32)), (0, .ref a_this), (1, .int p1)]) hx hb dX8_pen_41 rfl hl (by decide) rfl (fun ls hl => ?_)
      exact w_X8_pen_b42 C0 hend  s_fuel bads p1 (9 : Int32) _ _ _ h hS (lv_sub hl [1, 2, 0] rfl)
    replace h := s_yes c11 h
    refine lv_iconst (v := (-1 : Int32)) hx hb dX8_pen_37 (by decide) ?_
    obtain rfl := Option.some.inj h
    exact hend _ _ _ _ dX8_pen_38 hS
  replace h := s_yes c7 h
  refine lv_aload_n hx hb dX8_pen_11 rfl (lv_at hl 0 rfl) ?_
  obtain ⟨q12, hq12, h⟩ := s_bind h
  refine r_calliV (r := q12.1) (As := []) (rest := []) (wc := (wd_X8_bad cI cB cZ a_this a_house a_spare a_image0 a_image1 a_script a_lineup a_wits kept0 kept1 above below_ bads nos fulls)) (w1 := (wd_X8_bad cI cB cZ a_this a_house a_spare a_image0 a_image1 a_script a_lineup a_wits kept0 kept1 above below_ q12.2 nos fulls)) (ws' := (wd_X8_pen cI cB cZ a_this a_house a_house_wets a_house_guests a_house_guests_cells a_house_sights a_house_remarks a_house_marks a_house_past a_spare a_image0 a_image1 a_script a_lineup a_wits house_wets house_guests_cells house_guests_rows house_host house_rooms house_night house_wheels house_turned kept0 kept1 above below_ q12.2 nos fulls)) hx hb hml hown hts hK hA hl hS (c_X8_bad l D cI cB cZ a_this a_house a_spare a_image0 a_image1 a_script a_lineup a_wits kept0 kept1 above below_ bads nos fulls _ _ hq12) (cwV 0 hts gX8_pen_X8_bad rfl rfl rfl (by decide +kernel) ⟨Nat.le_of_ble_eq_true rfl, Nat.le_of_ble_eq_true rfl⟩) 0 rfl rfl [0] rfl rfl rfl [.inr 0, .inl 1, .inl 2, .inl 3, .inl 4] rfl rfl rfl rfl (Nat.le_of_ble_eq_true rfl) dX8_pen_12 (fun H locs hS => ?_)
  obtain rfl := Option.some.inj h
  exact hend _ _ _ _ dX8_pen_15 hS

-- InnTurned.order(I)I
def wd_X8_order (cI cB cZ : ClassId) (a_this : Nat) (a_house : Nat) (a_house_wets : Nat) (a_house_guests : Nat) (a_house_guests_cells : Nat) (a_house_sights : Nat) (a_house_remarks : Nat) (a_house_marks : Nat) (a_house_past : Nat) (a_spare : Nat) (a_image0 : Nat) (a_image1 : Nat) (a_script : Nat) (a_lineup : Nat) (a_lineup_best : Nat) (a_lineup_likely : Nat) (a_lineup_places : Nat) (a_wits : Nat)  (house_wets : (Nat → Int32)) (house_guests_cells : (Nat → Int32)) (house_guests_rows : Int32) (house_host : Int32) (house_rooms : Int32) (house_night : Int32) (house_wheels : Int32) (house_turned : Int32) (lineup_best : (Nat → Int32)) (lineup_likely : (Nat → Int32)) (lineup_places : (Nat → Int32)) (lineup_all : Int32) (lineup_length : Int32) (lineup_let : Int32) (kept0 : Int32) (kept1 : Int32) (above : Int32) (below_ : Int32) (bads : Int32) (nos : Int32) (fulls : Int32) : va_W := [(a_this, .inr (5, [.ref a_house, .ref a_spare, .ref a_image0, .ref a_image1, .ref a_script, .ref a_lineup, .ref a_wits, .int kept0, .int kept1, .int above, .int below_, .int bads, .int nos, .int fulls])), (a_house, .inr (0, [.ref a_house_wets, .ref a_house_guests, .ref a_house_sights, .ref a_house_remarks, .ref a_house_marks, .ref a_house_past, .int house_host, .int house_rooms, .int house_night, .int house_wheels, .int house_turned])), (a_house_wets, .inl (cI, 6, .inl house_wets)), (a_house_guests, .inr (3, [.int 4, .int 7, .ref a_house_guests_cells, .int house_guests_rows])), (a_house_guests_cells, .inl (cI, 28, .inl house_guests_cells)), (a_lineup, .inr (1, [.ref a_lineup_best, .ref a_lineup_likely, .ref a_lineup_places, .int lineup_all, .int lineup_length, .int lineup_let])), (a_lineup_best, .inl (cI, 128, .inl lineup_best)), (a_lineup_likely, .inl (cI, 7, .inl lineup_likely)), (a_lineup_places, .inl (cI, 7, .inl lineup_places))]
abbrev rm_X8_order : Room := { frames := 5, cells := 0, slots := 0, locals := 118 }
set_option maxRecDepth 20000 in
theorem inX3_X8_order : ∀ w ∈ u_ws RX3 TX3 6, w ∈ wsX8_order := by decide +kernel
set_option maxRecDepth 20000 in
theorem inX8_X8_order : ∀ w ∈ u_ws RX8 TX8 14, w ∈ wsX8_order := by decide +kernel
def f_X8_order  (house_wets : (Nat → Int32)) (house_guests_cells : (Nat → Int32)) (house_guests_rows : Int32) (house_host : Int32) (house_rooms : Int32) (house_night : Int32) (house_wheels : Int32) (lineup_best : (Nat → Int32)) (lineup_likely : (Nat → Int32)) (lineup_places : (Nat → Int32)) (lineup_all : Int32) (lineup_length : Int32) (lineup_let : Int32) (bads : Int32) (p1 : Int32) : Option (Int32 × (Nat → Int32) × (Nat → Int32) × (Nat → Int32) × Int32 × Int32 × Int32 × Int32) := (if (-1 : Int32) ≤ p1 then ((f_X3_arrange house_wets house_guests_cells house_guests_rows house_host house_rooms house_night house_wheels lineup_best lineup_likely lineup_places lineup_all lineup_length lineup_let).bind fun q2 => (if p1 = (-1 : Int32) then some (q2.2.2.2.2.2, q2.1, q2.2.1, q2.2.2.1, q2.2.2.2.1, q2.2.2.2.2.1, q2.2.2.2.2.2, bads) else (if q2.2.2.2.2.1 ≤ p1 then some ((-5 : Int32), q2.1, q2.2.1, q2.2.2.1, q2.2.2.2.1, q2.2.2.2.2.1, q2.2.2.2.2.2, bads) else ((f_X3_place q2.2.2.1 q2.2.2.2.2.1 p1).bind fun q5 => some (q5, q2.1, q2.2.1, q2.2.2.1, q2.2.2.2.1, q2.2.2.2.2.1, q2.2.2.2.2.2, bads))))) else ((f_X8_bad bads).bind fun q6 => some ((-10 : Int32), lineup_best, lineup_likely, lineup_places, lineup_all, lineup_length, lineup_let, q6.2)))
set_option maxHeartbeats 4000000 in
set_option maxRecDepth 100000 in
theorem c_X8_order (l : Launch) (D : va_G) (cI cB cZ : ClassId) (a_this : Nat) (a_house : Nat) (a_house_wets : Nat) (a_house_guests : Nat) (a_house_guests_cells : Nat) (a_house_sights : Nat) (a_house_remarks : Nat) (a_house_marks : Nat) (a_house_past : Nat) (a_spare : Nat) (a_image0 : Nat) (a_image1 : Nat) (a_script : Nat) (a_lineup : Nat) (a_lineup_best : Nat) (a_lineup_likely : Nat) (a_lineup_places : Nat) (a_wits : Nat) (house_wets : (Nat → Int32)) (house_guests_cells : (Nat → Int32)) (house_guests_rows : Int32) (house_host : Int32) (house_rooms : Int32) (house_night : Int32) (house_wheels : Int32) (house_turned : Int32) (lineup_best : (Nat → Int32)) (lineup_likely : (Nat → Int32)) (lineup_places : (Nat → Int32)) (lineup_all : Int32) (lineup_length : Int32) (lineup_let : Int32) (kept0 : Int32) (kept1 : Int32) (above : Int32) (below_ : Int32) (bads : Int32) (nos : Int32) (fulls : Int32) (p1 : Int32) (rv : Int32 × (Nat → Int32) × (Nat → Int32) × (Nat → Int32) × Int32 × Int32 × Int32 × Int32) (sz : Nat) (hf : f_X8_order house_wets house_guests_cells house_guests_rows house_host house_rooms house_night house_wheels lineup_best lineup_likely lineup_places lineup_all lineup_length lineup_let bads p1 = some rv) : Met l yX8_order wsX8_order rm_X8_order (sPc D vwCl (s_tys cI cB cZ) [.ref a_this, .int p1] (wd_X8_order cI cB cZ a_this a_house a_house_wets a_house_guests a_house_guests_cells a_house_sights a_house_remarks a_house_marks a_house_past a_spare a_image0 a_image1 a_script a_lineup a_lineup_best a_lineup_likely a_lineup_places a_wits house_wets house_guests_cells house_guests_rows house_host house_rooms house_night house_wheels house_turned lineup_best lineup_likely lineup_places lineup_all lineup_length lineup_let kept0 kept1 above below_ bads nos fulls) sz) (sQi D vwCl (wd_X8_order cI cB cZ a_this a_house a_house_wets a_house_guests a_house_guests_cells a_house_sights a_house_remarks a_house_marks a_house_past a_spare a_image0 a_image1 a_script a_lineup a_lineup_best a_lineup_likely a_lineup_places a_wits house_wets house_guests_cells house_guests_rows house_host house_rooms house_night house_wheels house_turned lineup_best lineup_likely lineup_places lineup_all lineup_length lineup_let kept0 kept1 above below_ bads nos fulls) (wd_X8_order cI cB cZ a_this a_house a_house_wets a_house_guests a_house_guests_cells a_house_sights a_house_remarks a_house_marks a_house_past a_spare a_image0 a_image1 a_script a_lineup a_lineup_best a_lineup_likely a_lineup_places a_wits house_wets house_guests_cells house_guests_rows house_host house_rooms house_night house_wheels house_turned rv.2.1 rv.2.2.1 rv.2.2.2.1 rv.2.2.2.2.1 rv.2.2.2.2.2.1 rv.2.2.2.2.2.2.1 kept0 kept1 above below_ rv.2.2.2.2.2.2.2 nos fulls) sz rv.1) 0 0 (va_A (wd_X8_order cI cB cZ a_this a_house a_house_wets a_house_guests a_house_guests_cells a_house_sights a_house_remarks a_house_marks a_house_past a_spare a_image0 a_image1 a_script a_lineup a_lineup_best a_lineup_likely a_lineup_places a_wits house_wets house_guests_cells house_guests_rows house_host house_rooms house_night house_wheels house_turned lineup_best lineup_likely lineup_places lineup_all lineup_length lineup_let kept0 kept1 above below_ bads nos fulls) sz) := by
  refine s_enter_n (cc := cX8_order) (nL := 2) (r := rv.1) (by decide) rfl (Nat.le_of_ble_eq_true rfl) ?_
  intro p e s m args below meth c A Q C0 hend ls hl hS
  have h := hf
  clear hf
  replace hl : lv_has ls 2 [(0, .ref a_this), (1, .int p1)] := hl
  unfold f_X8_order at h
  obtain ⟨hx, hb, hml, hown, hts, hK, hA⟩ := id C0
  have inX3 : ∀ w ∈ u_ws RX3 TX3 6, w ∈ wsX8_order := inX3_X8_order
  have inX8 : ∀ w ∈ u_ws RX8 TX8 14, w ∈ wsX8_order := inX8_X8_order
  refine lv_iload_n hx hb dX8_order_0 rfl (lv_at hl 1 rfl) ?_
  refine lv_iconst (v := (-1 : Int32)) hx hb dX8_order_1 (by decide) ?_
  refine lv_icmp_ge (tgt := 13) hx hb dX8_order_2 (by decide) (fun c1 => ?_) (fun c1 => ?_)
  · replace h := s_yes c1 h
    refine lv_aload_n hx hb dX8_order_13 rfl (lv_at hl 0 rfl) ?_
    refine s_get (C := RX8) (T := TX8) (N := 14) hx hb hts inX8 hown hK hS 0 rfl rfl 5 (by decide) (hts (.fieldLink RX8 35 "InnTurned" "lineup" "LInnTurned$Lineup;") (List.mem_of_getElem? (i := 1) rfl)) rfl rfl dX8_order_14 ?_
    refine lv_aload_n hx hb dX8_order_17 rfl (lv_at hl 0 rfl) ?_
    refine s_get (C := RX8) (T := TX8) (N := 14) hx hb hts inX8 hown hK hS 0 rfl rfl 0 (by decide) (hts (.fieldLink RX8 10 "InnTurned" "house" "LInnTurned$House;") (List.mem_of_getElem? (i := 2) rfl)) rfl rfl dX8_order_18 ?_
    obtain ⟨q2, hq2, h⟩ := s_bind h
    refine r_callvV (As := [.ref a_house]) (rest := []) (wc := (wd_X3_arrange cI cB cZ a_lineup a_lineup_best a_lineup_likely a_lineup_places a_house a_house_wets a_house_guests a_house_guests_cells a_house_sights a_house_remarks a_house_marks a_house_past lineup_best lineup_likely lineup_places lineup_all lineup_length lineup_let house_wets house_guests_cells house_guests_rows house_host house_rooms house_night house_wheels house_turned)) (w1 := (wd_X3_arrange cI cB cZ a_lineup a_lineup_best a_lineup_likely a_lineup_places a_house a_house_wets a_house_guests a_house_guests_cells a_house_sights a_house_remarks a_house_marks a_house_past q2.1 q2.2.1 q2.2.2.1 q2.2.2.2.1 q2.2.2.2.2.1 q2.2.2.2.2.2 house_wets house_guests_cells house_guests_rows house_host house_rooms house_night house_wheels house_turned)) (ws' := (wd_X8_order cI cB cZ a_this a_house a_house_wets a_house_guests a_house_guests_cells a_house_sights a_house_remarks a_house_marks a_house_past a_spare a_image0 a_image1 a_script a_lineup a_lineup_best a_lineup_likely a_lineup_places a_wits house_wets house_guests_cells house_guests_rows house_host house_rooms house_night house_wheels house_turned q2.1 q2.2.1 q2.2.2.1 q2.2.2.2.1 q2.2.2.2.2.1 q2.2.2.2.2.2 kept0 kept1 above below_ bads nos fulls)) hx hb hml hown hts hK hA hl hS (c_X3_arrange l D cI cB cZ a_lineup a_lineup_best a_lineup_likely a_lineup_places a_house a_house_wets a_house_guests a_house_guests_cells a_house_sights a_house_remarks a_house_marks a_house_past lineup_best lineup_likely lineup_places lineup_all lineup_length lineup_let house_wets house_guests_cells house_guests_rows house_host house_rooms house_night house_wheels house_turned _ _ hq2) (cwV 1 hts gX8_order_X3_arrange rfl rfl rfl (by decide +kernel) ⟨Nat.le_of_ble_eq_true rfl, Nat.le_of_ble_eq_true rfl⟩) 5 rfl rfl [5, 6, 7, 8, 1, 2, 3, 4] rfl rfl rfl [.inl 0, .inr 4, .inr 5, .inr 6, .inr 7, .inr 0, .inr 1, .inr 2, .inr 3] rfl rfl rfl rfl (Nat.le_of_ble_eq_true rfl) dX8_order_21 (fun H locs hS => ?_)
    refine lv_iload_n hx hb dX8_order_24 rfl (lv_at hl 1 rfl) ?_
    refine lv_iconst (v := (-1 : Int32)) hx hb dX8_order_25 (by decide) ?_
    refine lv_icmp_ne (tgt := 37) hx hb dX8_order_26 (by decide) (fun c3 => ?_) (fun c3 => ?_)
    · replace h := s_no c3 h
      refine lv_iload_n hx hb dX8_order_37 rfl (lv_at hl 1 rfl) ?_
      refine lv_aload_n hx hb dX8_order_38 rfl (lv_at hl 0 rfl) ?_
      refine s_get (C := RX8) (T := TX8) (N := 14) hx hb hts inX8 hown hK hS 0 rfl rfl 5 (by decide) (hts (.fieldLink RX8 35 "InnTurned" "lineup" "LInnTurned$Lineup;") (List.mem_of_getElem? (i := 1) rfl)) rfl rfl dX8_order_39 ?_
      refine s_getN (C := RX3) (T := TX3) (N := 6) hx hb hts inX3 hown hK hS 5 rfl rfl 4 (by decide) 30 rfl rfl rfl dX8_order_42 ?_
      refine lv_icmp_ge (tgt := 59) hx hb dX8_order_45 (by decide) (fun c4 => ?_) (fun c4 => ?_)
      · replace h := s_yes c4 h
        refine lv_bipush (v := (-5 : Int32)) hx hb dX8_order_59 (by decide) ?_
        obtain rfl := Option.some.inj h
        exact hend _ _ _ _ dX8_order_61 hS
      replace h := s_no c4 h
      refine lv_aload_n hx hb dX8_order_48 rfl (lv_at hl 0 rfl) ?_
      refine s_get (C := RX8) (T := TX8) (N := 14) hx hb hts inX8 hown hK hS 0 rfl rfl 5 (by decide) (hts (.fieldLink RX8 35 "InnTurned" "lineup" "LInnTurned$Lineup;") (List.mem_of_getElem? (i := 1) rfl)) rfl rfl dX8_order_49 ?_
      refine lv_iload_n hx hb dX8_order_52 rfl (lv_at hl 1 rfl) ?_
      obtain ⟨q5, hq5, h⟩ := s_bind h
      refine u_calliV (r := q5) (As := [.int p1]) (rest := []) (wc := (wd_X3_place cI cB cZ a_lineup a_lineup_best a_lineup_likely a_lineup_places q2.2.2.1 q2.2.2.2.1 q2.2.2.2.2.1 q2.2.2.2.2.2)) hx hb hml hown hts hK hA hl hS (c_X3_place l D cI cB cZ a_lineup a_lineup_best a_lineup_likely a_lineup_places q2.2.2.1 q2.2.2.2.1 q2.2.2.2.2.1 q2.2.2.2.2.2 p1 _ _ hq5) (cwV 1 hts gX8_order_X3_place rfl rfl rfl (by decide +kernel) ⟨Nat.le_of_ble_eq_true rfl, Nat.le_of_ble_eq_true rfl⟩) 5 rfl rfl [5, 8] rfl rfl rfl rfl (Nat.le_of_ble_eq_true rfl) dX8_order_53 (fun H locs hS => ?_)
      refine lv_goto (tgt := 61) hx hb dX8_order_56 (by decide) ?_
      obtain rfl := Option.some.inj h
      exact hend _ _ _ _ dX8_order_61 hS
    replace h := s_yes c3 h
    refine lv_aload_n hx hb dX8_order_29 rfl (lv_at hl 0 rfl) ?_
    refine s_get (C := RX8) (T := TX8) (N := 14) hx hb hts inX8 hown hK hS 0 rfl rfl 5 (by decide) (hts (.fieldLink RX8 35 "InnTurned" "lineup" "LInnTurned$Lineup;") (List.mem_of_getElem? (i := 1) rfl)) rfl rfl dX8_order_30 ?_
    refine s_getN (C := RX3) (T := TX3) (N := 6) hx hb hts inX3 hown hK hS 5 rfl rfl 5 (by decide) 31 rfl rfl rfl dX8_order_33 ?_
    obtain rfl := Option.some.inj h
    exact hend _ _ _ _ dX8_order_36 hS
  replace h := s_no c1 h
  refine lv_aload_n hx hb dX8_order_5 rfl (lv_at hl 0 rfl) ?_
  obtain ⟨q6, hq6, h⟩ := s_bind h
  refine r_calliV (r := q6.1) (As := []) (rest := []) (wc := (wd_X8_bad cI cB cZ a_this a_house a_spare a_image0 a_image1 a_script a_lineup a_wits kept0 kept1 above below_ bads nos fulls)) (w1 := (wd_X8_bad cI cB cZ a_this a_house a_spare a_image0 a_image1 a_script a_lineup a_wits kept0 kept1 above below_ q6.2 nos fulls)) (ws' := (wd_X8_order cI cB cZ a_this a_house a_house_wets a_house_guests a_house_guests_cells a_house_sights a_house_remarks a_house_marks a_house_past a_spare a_image0 a_image1 a_script a_lineup a_lineup_best a_lineup_likely a_lineup_places a_wits house_wets house_guests_cells house_guests_rows house_host house_rooms house_night house_wheels house_turned lineup_best lineup_likely lineup_places lineup_all lineup_length lineup_let kept0 kept1 above below_ q6.2 nos fulls)) hx hb hml hown hts hK hA hl hS (c_X8_bad l D cI cB cZ a_this a_house a_spare a_image0 a_image1 a_script a_lineup a_wits kept0 kept1 above below_ bads nos fulls _ _ hq6) (cwV 0 hts gX8_order_X8_bad rfl rfl rfl (by decide +kernel) ⟨Nat.le_of_ble_eq_true rfl, Nat.le_of_ble_eq_true rfl⟩) 0 rfl rfl [0] rfl rfl rfl [.inr 0, .inl 1, .inl 2, .inl 3, .inl 4, .inl 5, .inl 6, .inl 7, .inl 8] rfl rfl rfl rfl (Nat.le_of_ble_eq_true rfl) dX8_order_6 (fun H locs hS => ?_)
  refine lv_pop hx hb dX8_order_9 rfl ?_
  refine lv_bipush (v := (-10 : Int32)) hx hb dX8_order_10 (by decide) ?_
  obtain rfl := Option.some.inj h
  exact hend _ _ _ _ dX8_order_12 hS

-- InnTurned.written(LInnTurned$Table;IIIII)I
def wd_X8_written (cI cB cZ : ClassId) (a_this : Nat) (a_house : Nat) (a_spare : Nat) (a_image0 : Nat) (a_image1 : Nat) (a_script : Nat) (a_lineup : Nat) (a_wits : Nat) (a_p1 : Nat) (a_p1_cells : Nat) (n_p1_cells : Nat) (kept0 : Int32) (kept1 : Int32) (above : Int32) (below_ : Int32) (bads : Int32) (nos : Int32) (fulls : Int32) (p1_width : Int32) (p1_most : Int32) (p1_cells : (Nat → Int32)) (p1_rows : Int32) : va_W := [(a_this, .inr (5, [.ref a_house, .ref a_spare, .ref a_image0, .ref a_image1, .ref a_script, .ref a_lineup, .ref a_wits, .int kept0, .int kept1, .int above, .int below_, .int bads, .int nos, .int fulls])), (a_p1, .inr (3, [.int p1_width, .int p1_most, .ref a_p1_cells, .int p1_rows])), (a_p1_cells, .inl (cI, n_p1_cells, .inl p1_cells))]
abbrev rm_X8_written : Room := { frames := 2, cells := 0, slots := 0, locals := 45 }
set_option maxRecDepth 20000 in
theorem inX5_X8_written : ∀ w ∈ u_ws RX5 TX5 4, w ∈ wsX8_written := by decide +kernel
def f_X8_written (n_p1_cells : Nat) (p1_width : Int32) (p1_most : Int32) (fulls : Int32) (p1_cells : (Nat → Int32)) (p1_rows : Int32) (p2 : Int32) (p3 : Int32) (p4 : Int32) (p5 : Int32) (p6 : Int32) : Option (Int32 × Int32 × (Nat → Int32) × Int32) := ((f_X5_isFull p1_most p1_rows).bind fun q1 => (if q1 = 0 then ((f_X5_append n_p1_cells p1_width p1_most p1_cells p1_rows).bind fun q3 => ((f_X5_put n_p1_cells p1_width q3.2.2 q3.2.1 q3.1 (0 : Int32) p2).bind fun q4 => ((f_X5_put n_p1_cells p1_width q3.2.2 q4 q3.1 (1 : Int32) p3).bind fun q5 => ((f_X5_put n_p1_cells p1_width q3.2.2 q5 q3.1 (2 : Int32) p4).bind fun q6 => ((f_X5_put n_p1_cells p1_width q3.2.2 q6 q3.1 (3 : Int32) p5).bind fun q7 => ((f_X5_put n_p1_cells p1_width q3.2.2 q7 q3.1 (4 : Int32) p6).bind fun q8 => some (q3.2.2, fulls, q8, q3.2.2))))))) else ((f_X8_full fulls).bind fun q9 => some (q9.1, q9.2, p1_cells, p1_rows))))
set_option maxHeartbeats 4000000 in
set_option maxRecDepth 100000 in
theorem c_X8_written (l : Launch) (D : va_G) (cI cB cZ : ClassId) (a_this : Nat) (a_house : Nat) (a_spare : Nat) (a_image0 : Nat) (a_image1 : Nat) (a_script : Nat) (a_lineup : Nat) (a_wits : Nat) (a_p1 : Nat) (a_p1_cells : Nat) (n_p1_cells : Nat) (kept0 : Int32) (kept1 : Int32) (above : Int32) (below_ : Int32) (bads : Int32) (nos : Int32) (fulls : Int32) (p1_width : Int32) (p1_most : Int32) (p1_cells : (Nat → Int32)) (p1_rows : Int32) (p2 : Int32) (p3 : Int32) (p4 : Int32) (p5 : Int32) (p6 : Int32) (rv : Int32 × Int32 × (Nat → Int32) × Int32) (sz : Nat) (hf : f_X8_written n_p1_cells p1_width p1_most fulls p1_cells p1_rows p2 p3 p4 p5 p6 = some rv) : Met l yX8_written wsX8_written rm_X8_written (sPc D vwCl (s_tys cI cB cZ) [.ref a_this, .ref a_p1, .int p2, .int p3, .int p4, .int p5, .int p6] (wd_X8_written cI cB cZ a_this a_house a_spare a_image0 a_image1 a_script a_lineup a_wits a_p1 a_p1_cells n_p1_cells kept0 kept1 above below_ bads nos fulls p1_width p1_most p1_cells p1_rows) sz) (sQi D vwCl (wd_X8_written cI cB cZ a_this a_house a_spare a_image0 a_image1 a_script a_lineup a_wits a_p1 a_p1_cells n_p1_cells kept0 kept1 above below_ bads nos fulls p1_width p1_most p1_cells p1_rows) (wd_X8_written cI cB cZ a_this a_house a_spare a_image0 a_image1 a_script a_lineup a_wits a_p1 a_p1_cells n_p1_cells kept0 kept1 above below_ bads nos rv.2.1 p1_width p1_most rv.2.2.1 rv.2.2.2) sz rv.1) 0 0 (va_A (wd_X8_written cI cB cZ a_this a_house a_spare a_image0 a_image1 a_script a_lineup a_wits a_p1 a_p1_cells n_p1_cells kept0 kept1 above below_ bads nos fulls p1_width p1_most p1_cells p1_rows) sz) := by
  refine s_enter_n (cc := cX8_written) (nL := 8) (r := rv.1) (by decide) rfl (Nat.le_of_ble_eq_true rfl) ?_
  intro p e s m args below meth c A Q C0 hend ls hl hS
  have h := hf
  clear hf
  replace hl : lv_has ls 8 [(0, .ref a_this), (1, .ref a_p1), (2, .int p2), (3, .int p3), (4, .int p4), (5, .int p5), (6, .int p6)] := hl
  unfold f_X8_written at h
  obtain ⟨hx, hb, hml, hown, hts, hK, hA⟩ := id C0
  have inX5 : ∀ w ∈ u_ws RX5 TX5 4, w ∈ wsX8_written := inX5_X8_written
  refine lv_aload_n hx hb dX8_written_0 rfl (lv_at hl 1 rfl) ?_
  obtain ⟨q1, hq1, h⟩ := s_bind h
  refine u_calliV (r := q1) (As := []) (rest := []) (wc := (wd_X5_isFull cI cB cZ a_p1 a_p1_cells p1_width p1_most p1_rows)) hx hb hml hown hts hK hA hl hS (c_X5_isFull l D cI cB cZ a_p1 a_p1_cells p1_width p1_most p1_rows _ _ hq1) (cwV 0 hts gX8_written_X5_isFull rfl rfl rfl (by decide +kernel) ⟨Nat.le_of_ble_eq_true rfl, Nat.le_of_ble_eq_true rfl⟩) 1 rfl rfl [1] rfl rfl rfl rfl (Nat.le_of_ble_eq_true rfl) dX8_written_1 (fun H locs hS => ?_)
  refine lv_if_eq (tgt := 12) hx hb dX8_written_4 (by decide) (fun c2 => ?_) (fun c2 => ?_)
  · replace h := s_yes c2 h
    refine lv_aload_n hx hb dX8_written_12 rfl (lv_at hl 1 rfl) ?_
    obtain ⟨q3, hq3, h⟩ := s_bind h
    refine r_calliV (r := q3.1) (As := []) (rest := []) (wc := (wd_X5_append cI cB cZ a_p1 a_p1_cells n_p1_cells p1_width p1_most p1_cells p1_rows)) (w1 := (wd_X5_append cI cB cZ a_p1 a_p1_cells n_p1_cells p1_width p1_most q3.2.1 q3.2.2)) (ws' := (wd_X8_written cI cB cZ a_this a_house a_spare a_image0 a_image1 a_script a_lineup a_wits a_p1 a_p1_cells n_p1_cells kept0 kept1 above below_ bads nos fulls p1_width p1_most q3.2.1 q3.2.2)) hx hb hml hown hts hK hA hl hS (c_X5_append l D cI cB cZ a_p1 a_p1_cells n_p1_cells p1_width p1_most p1_cells p1_rows _ _ hq3) (cwV 0 hts gX8_written_X5_append rfl rfl rfl (by decide +kernel) ⟨Nat.le_of_ble_eq_true rfl, Nat.le_of_ble_eq_true rfl⟩) 1 rfl rfl [1, 2] rfl rfl rfl [.inl 0, .inr 0, .inr 1] rfl rfl rfl rfl (Nat.le_of_ble_eq_true rfl) dX8_written_13 (fun H locs hS => ?_)
    refine lv_istore (lv' := [(7, .int q3.1), (0, .ref a_this), (1, .ref a_p1), (2, .int p2), (3, .int p3), (4, .int p4), (5, .int p5), (6, .int p6)]) hx hb dX8_written_16 hl (by decide) rfl (fun ls hl => ?_)
    refine lv_aload_n hx hb dX8_written_18 rfl (lv_at hl 2 rfl) ?_
    refine lv_iload hx hb dX8_written_19 (lv_at hl 0 rfl) ?_
    refine lv_iconst (v := (0 : Int32)) hx hb dX8_written_21 (by decide) ?_
    refine lv_iload_n hx hb dX8_written_22 rfl (lv_at hl 3 rfl) ?_
    obtain ⟨q4, hq4, h⟩ := s_bind h
    refine r_callvV (As := [.int q3.1, .int (0 : Int32), .int p2]) (rest := []) (wc := (wd_X5_put cI cB cZ a_p1 a_p1_cells n_p1_cells p1_width p1_most q3.2.1 q3.2.2)) (w1 := (wd_X5_put cI cB cZ a_p1 a_p1_cells n_p1_cells p1_width p1_most q4 q3.2.2)) (ws' := (wd_X8_written cI cB cZ a_this a_house a_spare a_image0 a_image1 a_script a_lineup a_wits a_p1 a_p1_cells n_p1_cells kept0 kept1 above below_ bads nos fulls p1_width p1_most q4 q3.2.2)) hx hb hml hown hts hK hA hl hS (c_X5_put l D cI cB cZ a_p1 a_p1_cells n_p1_cells p1_width p1_most q3.2.1 q3.2.2 q3.1 (0 : Int32) p2 _ _ hq4) (cwV 3 hts gX8_written_X5_put rfl rfl rfl (by decide +kernel) ⟨Nat.le_of_ble_eq_true rfl, Nat.le_of_ble_eq_true rfl⟩) 1 rfl rfl [1, 2] rfl rfl rfl [.inl 0, .inr 0, .inr 1] rfl rfl rfl rfl (Nat.le_of_ble_eq_true rfl) dX8_written_23 (fun H locs hS => ?_)
    refine lv_aload_n hx hb dX8_written_26 rfl (lv_at hl 2 rfl) ?_
    refine lv_iload hx hb dX8_written_27 (lv_at hl 0 rfl) ?_
    refine lv_iconst (v := (1 : Int32)) hx hb dX8_written_29 (by decide) ?_
    refine lv_iload_n hx hb dX8_written_30 rfl (lv_at hl 4 rfl) ?_
    obtain ⟨q5, hq5, h⟩ := s_bind h
    refine r_callvV (As := [.int q3.1, .int (1 : Int32), .int p3]) (rest := []) (wc := (wd_X5_put cI cB cZ a_p1 a_p1_cells n_p1_cells p1_width p1_most q4 q3.2.2)) (w1 := (wd_X5_put cI cB cZ a_p1 a_p1_cells n_p1_cells p1_width p1_most q5 q3.2.2)) (ws' := (wd_X8_written cI cB cZ a_this a_house a_spare a_image0 a_image1 a_script a_lineup a_wits a_p1 a_p1_cells n_p1_cells kept0 kept1 above below_ bads nos fulls p1_width p1_most q5 q3.2.2)) hx hb hml hown hts hK hA hl hS (c_X5_put l D cI cB cZ a_p1 a_p1_cells n_p1_cells p1_width p1_most q4 q3.2.2 q3.1 (1 : Int32) p3 _ _ hq5) (cwV 3 hts gX8_written_X5_put rfl rfl rfl (by decide +kernel) ⟨Nat.le_of_ble_eq_true rfl, Nat.le_of_ble_eq_true rfl⟩) 1 rfl rfl [1, 2] rfl rfl rfl [.inl 0, .inr 0, .inr 1] rfl rfl rfl rfl (Nat.le_of_ble_eq_true rfl) dX8_written_31 (fun H locs hS => ?_)
    refine lv_aload_n hx hb dX8_written_34 rfl (lv_at hl 2 rfl) ?_
    refine lv_iload hx hb dX8_written_35 (lv_at hl 0 rfl) ?_
    refine lv_iconst (v := (2 : Int32)) hx hb dX8_written_37 (by decide) ?_
    refine lv_iload hx hb dX8_written_38 (lv_at hl 5 rfl) ?_
    obtain ⟨q6, hq6, h⟩ := s_bind h
    refine r_callvV (As := [.int q3.1, .int (2 : Int32), .int p4]) (rest := []) (wc := (wd_X5_put cI cB cZ a_p1 a_p1_cells n_p1_cells p1_width p1_most q5 q3.2.2)) (w1 := (wd_X5_put cI cB cZ a_p1 a_p1_cells n_p1_cells p1_width p1_most q6 q3.2.2)) (ws' := (wd_X8_written cI cB cZ a_this a_house a_spare a_image0 a_image1 a_script a_lineup a_wits a_p1 a_p1_cells n_p1_cells kept0 kept1 above below_ bads nos fulls p1_width p1_most q6 q3.2.2)) hx hb hml hown hts hK hA hl hS (c_X5_put l D cI cB cZ a_p1 a_p1_cells n_p1_cells p1_width p1_most q5 q3.2.2 q3.1 (2 : Int32) p4 _ _ hq6) (cwV 3 hts gX8_written_X5_put rfl rfl rfl (by decide +kernel) ⟨Nat.le_of_ble_eq_true rfl, Nat.le_of_ble_eq_true rfl⟩) 1 rfl rfl [1, 2] rfl rfl rfl [.inl 0, .inr 0, .inr 1] rfl rfl rfl rfl (Nat.le_of_ble_eq_true rfl) dX8_written_40 (fun H locs hS => ?_)
    refine lv_aload_n hx hb dX8_written_43 rfl (lv_at hl 2 rfl) ?_
    refine lv_iload hx hb dX8_written_44 (lv_at hl 0 rfl) ?_
    refine lv_iconst (v := (3 : Int32)) hx hb dX8_written_46 (by decide) ?_
    refine lv_iload hx hb dX8_written_47 (lv_at hl 6 rfl) ?_
    obtain ⟨q7, hq7, h⟩ := s_bind h
    refine r_callvV (As := [.int q3.1, .int (3 : Int32), .int p5]) (rest := []) (wc := (wd_X5_put cI cB cZ a_p1 a_p1_cells n_p1_cells p1_width p1_most q6 q3.2.2)) (w1 := (wd_X5_put cI cB cZ a_p1 a_p1_cells n_p1_cells p1_width p1_most q7 q3.2.2)) (ws' := (wd_X8_written cI cB cZ a_this a_house a_spare a_image0 a_image1 a_script a_lineup a_wits a_p1 a_p1_cells n_p1_cells kept0 kept1 above below_ bads nos fulls p1_width p1_most q7 q3.2.2)) hx hb hml hown hts hK hA hl hS (c_X5_put l D cI cB cZ a_p1 a_p1_cells n_p1_cells p1_width p1_most q6 q3.2.2 q3.1 (3 : Int32) p5 _ _ hq7) (cwV 3 hts gX8_written_X5_put rfl rfl rfl (by decide +kernel) ⟨Nat.le_of_ble_eq_true rfl, Nat.le_of_ble_eq_true rfl⟩) 1 rfl rfl [1, 2] rfl rfl rfl [.inl 0, .inr 0, .inr 1] rfl rfl rfl rfl (Nat.le_of_ble_eq_true rfl) dX8_written_49 (fun H locs hS => ?_)
    refine lv_aload_n hx hb dX8_written_52 rfl (lv_at hl 2 rfl) ?_
    refine lv_iload hx hb dX8_written_53 (lv_at hl 0 rfl) ?_
    refine lv_iconst (v := (4 : Int32)) hx hb dX8_written_55 (by decide) ?_
    refine lv_iload hx hb dX8_written_56 (lv_at hl 7 rfl) ?_
    obtain ⟨q8, hq8, h⟩ := s_bind h
    refine r_callvV (As := [.int q3.1, .int (4 : Int32), .int p6]) (rest := []) (wc := (wd_X5_put cI cB cZ a_p1 a_p1_cells n_p1_cells p1_width p1_most q7 q3.2.2)) (w1 := (wd_X5_put cI cB cZ a_p1 a_p1_cells n_p1_cells p1_width p1_most q8 q3.2.2)) (ws' := (wd_X8_written cI cB cZ a_this a_house a_spare a_image0 a_image1 a_script a_lineup a_wits a_p1 a_p1_cells n_p1_cells kept0 kept1 above below_ bads nos fulls p1_width p1_most q8 q3.2.2)) hx hb hml hown hts hK hA hl hS (c_X5_put l D cI cB cZ a_p1 a_p1_cells n_p1_cells p1_width p1_most q7 q3.2.2 q3.1 (4 : Int32) p6 _ _ hq8) (cwV 3 hts gX8_written_X5_put rfl rfl rfl (by decide +kernel) ⟨Nat.le_of_ble_eq_true rfl, Nat.le_of_ble_eq_true rfl⟩) 1 rfl rfl [1, 2] rfl rfl rfl [.inl 0, .inr 0, .inr 1] rfl rfl rfl rfl (Nat.le_of_ble_eq_true rfl) dX8_written_58 (fun H locs hS => ?_)
    refine lv_aload_n hx hb dX8_written_61 rfl (lv_at hl 2 rfl) ?_
    refine s_getN (C := RX5) (T := TX5) (N := 4) hx hb hts inX5 hown hK hS 1 rfl rfl 3 (by decide) 2 rfl rfl rfl dX8_written_62 ?_
    obtain rfl := Option.some.inj h
    exact hend _ _ _ _ dX8_written_65 hS
  replace h := s_no c2 h
  refine lv_aload_n hx hb dX8_written_7 rfl (lv_at hl 0 rfl) ?_
  obtain ⟨q9, hq9, h⟩ := s_bind h
  refine r_calliV (r := q9.1) (As := []) (rest := []) (wc := (wd_X8_full cI cB cZ a_this a_house a_spare a_image0 a_image1 a_script a_lineup a_wits kept0 kept1 above below_ bads nos fulls)) (w1 := (wd_X8_full cI cB cZ a_this a_house a_spare a_image0 a_image1 a_script a_lineup a_wits kept0 kept1 above below_ bads nos q9.2)) (ws' := (wd_X8_written cI cB cZ a_this a_house a_spare a_image0 a_image1 a_script a_lineup a_wits a_p1 a_p1_cells n_p1_cells kept0 kept1 above below_ bads nos q9.2 p1_width p1_most p1_cells p1_rows)) hx hb hml hown hts hK hA hl hS (c_X8_full l D cI cB cZ a_this a_house a_spare a_image0 a_image1 a_script a_lineup a_wits kept0 kept1 above below_ bads nos fulls _ _ hq9) (cwV 0 hts gX8_written_X8_full rfl rfl rfl (by decide +kernel) ⟨Nat.le_of_ble_eq_true rfl, Nat.le_of_ble_eq_true rfl⟩) 0 rfl rfl [0] rfl rfl rfl [.inr 0, .inl 1, .inl 2] rfl rfl rfl rfl (Nat.le_of_ble_eq_true rfl) dX8_written_8 (fun H locs hS => ?_)
  obtain rfl := Option.some.inj h
  exact hend _ _ _ _ dX8_written_11 hS

-- InnTurned.seen(IIII)I
def wd_X8_seen (cI cB cZ : ClassId) (a_this : Nat) (a_house : Nat) (a_house_wets : Nat) (a_house_guests : Nat) (a_house_guests_cells : Nat) (a_house_sights : Nat) (a_house_sights_cells : Nat) (a_house_remarks : Nat) (a_house_marks : Nat) (a_house_past : Nat) (a_spare : Nat) (a_image0 : Nat) (a_image1 : Nat) (a_script : Nat) (a_lineup : Nat) (a_wits : Nat)  (house_guests_rows : Int32) (house_sights_cells : (Nat → Int32)) (house_sights_rows : Int32) (house_host : Int32) (house_rooms : Int32) (house_night : Int32) (house_wheels : Int32) (house_turned : Int32) (kept0 : Int32) (kept1 : Int32) (above : Int32) (below_ : Int32) (bads : Int32) (nos : Int32) (fulls : Int32) : va_W := [(a_this, .inr (5, [.ref a_house, .ref a_spare, .ref a_image0, .ref a_image1, .ref a_script, .ref a_lineup, .ref a_wits, .int kept0, .int kept1, .int above, .int below_, .int bads, .int nos, .int fulls])), (a_house, .inr (0, [.ref a_house_wets, .ref a_house_guests, .ref a_house_sights, .ref a_house_remarks, .ref a_house_marks, .ref a_house_past, .int house_host, .int house_rooms, .int house_night, .int house_wheels, .int house_turned])), (a_house_guests, .inr (3, [.int 4, .int 7, .ref a_house_guests_cells, .int house_guests_rows])), (a_house_sights, .inr (3, [.int 4, .int 5, .ref a_house_sights_cells, .int house_sights_rows])), (a_house_sights_cells, .inl (cI, 20, .inl house_sights_cells))]
abbrev rm_X8_seen : Room := { frames := 3, cells := 0, slots := 0, locals := 72 }
set_option maxRecDepth 20000 in
theorem inX1_X8_seen : ∀ w ∈ u_ws RX1 TX1 11, w ∈ wsX8_seen := by decide +kernel
set_option maxRecDepth 20000 in
theorem inX8_X8_seen : ∀ w ∈ u_ws RX8 TX8 14, w ∈ wsX8_seen := by decide +kernel
def f_X8_seen_b18  (house_guests_rows : Int32) (house_sights_cells : (Nat → Int32)) (house_sights_rows : Int32) (bads : Int32) (fulls : Int32) : Option (Int32 × (Nat → Int32) × Int32 × Int32 × Int32) := ((f_X8_bad bads).bind fun q1 => some (q1.1, house_sights_cells, house_sights_rows, q1.2, fulls))
set_option maxHeartbeats 4000000 in
set_option maxRecDepth 100000 in
theorem w_X8_seen_b18 {p : Program} {l : Launch} {e : Env} {s : State} {m : MethodId} {args : Array Value} {below : List Frame} {meth : Method} {c : Code} {A : Nat → Prop} {Q : State → Prop} {D : va_G} {cI cB cZ : ClassId} {a_this a_house a_house_wets a_house_guests a_house_guests_cells a_house_sights a_house_sights_cells a_house_remarks a_house_marks a_house_past a_spare a_image0 a_image1 a_script a_lineup a_wits : Nat} {house_guests_rows : Int32} {house_host : Int32} {house_rooms : Int32} {house_night : Int32} {house_wheels : Int32} {house_turned : Int32} {kept0 : Int32} {kept1 : Int32} {above : Int32} {below_ : Int32} {nos : Int32} (C0 : Cx p s m args c cX8_seen 5 RX8 wsX8_seen D (s_tys cI cB cZ) A) {rv : Int32 × (Nat → Int32) × Int32 × Int32 × Int32} (hend : ∀ (pc : Nat) (H : Heap) (locs : List Loc) (ls : Array Slot), decode cX8_seen pc = .ok (.ireturn, 1) → sS D vwCl A s.heap (wd_X8_seen cI cB cZ a_this a_house a_house_wets a_house_guests a_house_guests_cells a_house_sights a_house_sights_cells a_house_remarks a_house_marks a_house_past a_spare a_image0 a_image1 a_script a_lineup a_wits house_guests_rows rv.2.1 rv.2.2.1 house_host house_rooms house_night house_wheels house_turned kept0 kept1 above below_ rv.2.2.2.1 nos rv.2.2.2.2) H locs → W p l e rm_X8_seen s m args below meth c H locs 0 0 Q (F0 m pc ls [.int rv.1])) : ∀ (house_sights_cells : (Nat → Int32)) (house_sights_rows : Int32) (bads : Int32) (fulls : Int32) (H : Heap) (locs : List Loc) (ls : Array Slot), f_X8_seen_b18 house_guests_rows house_sights_cells house_sights_rows bads fulls = some rv → sS D vwCl A s.heap (wd_X8_seen cI cB cZ a_this a_house a_house_wets a_house_guests a_house_guests_cells a_house_sights a_house_sights_cells a_house_remarks a_house_marks a_house_past a_spare a_image0 a_image1 a_script a_lineup a_wits house_guests_rows house_sights_cells house_sights_rows house_host house_rooms house_night house_wheels house_turned kept0 kept1 above below_ bads nos fulls) H locs → lv_has ls 5 [(0, .ref a_this)] → W p l e rm_X8_seen s m args below meth c H locs 0 0 Q (F0 m 18 ls []) := by
  obtain ⟨hx, hb, hml, hown, hts, hK, hA⟩ := id C0
  have inX1 : ∀ w ∈ u_ws RX1 TX1 11, w ∈ wsX8_seen := inX1_X8_seen
  have inX8 : ∀ w ∈ u_ws RX8 TX8 14, w ∈ wsX8_seen := inX8_X8_seen
  intro house_sights_cells house_sights_rows bads fulls H locs ls h hS hl
  unfold f_X8_seen_b18 at h
  refine lv_aload_n hx hb dX8_seen_18 rfl (lv_at hl 0 rfl) ?_
  obtain ⟨q1, hq1, h⟩ := s_bind h
  refine r_calliV (r := q1.1) (As := []) (rest := []) (wc := (wd_X8_bad cI cB cZ a_this a_house a_spare a_image0 a_image1 a_script a_lineup a_wits kept0 kept1 above below_ bads nos fulls)) (w1 := (wd_X8_bad cI cB cZ a_this a_house a_spare a_image0 a_image1 a_script a_lineup a_wits kept0 kept1 above below_ q1.2 nos fulls)) (ws' := (wd_X8_seen cI cB cZ a_this a_house a_house_wets a_house_guests a_house_guests_cells a_house_sights a_house_sights_cells a_house_remarks a_house_marks a_house_past a_spare a_image0 a_image1 a_script a_lineup a_wits house_guests_rows house_sights_cells house_sights_rows house_host house_rooms house_night house_wheels house_turned kept0 kept1 above below_ q1.2 nos fulls)) hx hb hml hown hts hK hA hl hS (c_X8_bad l D cI cB cZ a_this a_house a_spare a_image0 a_image1 a_script a_lineup a_wits kept0 kept1 above below_ bads nos fulls _ _ hq1) (cwV 0 hts gX8_seen_X8_bad rfl rfl rfl (by decide +kernel) ⟨Nat.le_of_ble_eq_true rfl, Nat.le_of_ble_eq_true rfl⟩) 0 rfl rfl [0] rfl rfl rfl [.inr 0, .inl 1, .inl 2, .inl 3, .inl 4] rfl rfl rfl rfl (Nat.le_of_ble_eq_true rfl) dX8_seen_19 (fun H locs hS => ?_)
  obtain rfl := Option.some.inj h
  exact hend _ _ _ _ dX8_seen_22 hS
def f_X8_seen_b43  (house_guests_rows : Int32) (house_sights_cells : (Nat → Int32)) (house_sights_rows : Int32) (bads : Int32) (fulls : Int32) : Option (Int32 × (Nat → Int32) × Int32 × Int32 × Int32) := ((f_X8_bad bads).bind fun q2 => some (q2.1, house_sights_cells, house_sights_rows, q2.2, fulls))
set_option maxHeartbeats 4000000 in
set_option maxRecDepth 100000 in
theorem w_X8_seen_b43 {p : Program} {l : Launch} {e : Env} {s : State} {m : MethodId} {args : Array Value} {below : List Frame} {meth : Method} {c : Code} {A : Nat → Prop} {Q : State → Prop} {D : va_G} {cI cB cZ : ClassId} {a_this a_house a_house_wets a_house_guests a_house_guests_cells a_house_sights a_house_sights_cells a_house_remarks a_house_marks a_house_past a_spare a_image0 a_image1 a_script a_lineup a_wits : Nat} {house_guests_rows : Int32} {house_host : Int32} {house_rooms : Int32} {house_night : Int32} {house_wheels : Int32} {house_turned : Int32} {kept0 : Int32} {kept1 : Int32} {above : Int32} {below_ : Int32} {nos : Int32} (C0 : Cx p s m args c cX8_seen 5 RX8 wsX8_seen D (s_tys cI cB cZ) A) {rv : Int32 × (Nat → Int32) × Int32 × Int32 × Int32} (hend : ∀ (pc : Nat) (H : Heap) (locs : List Loc) (ls : Array Slot), decode cX8_seen pc = .ok (.ireturn, 1) → sS D vwCl A s.heap (wd_X8_seen cI cB cZ a_this a_house a_house_wets a_house_guests a_house_guests_cells a_house_sights a_house_sights_cells a_house_remarks a_house_marks a_house_past a_spare a_image0 a_image1 a_script a_lineup a_wits house_guests_rows rv.2.1 rv.2.2.1 house_host house_rooms house_night house_wheels house_turned kept0 kept1 above below_ rv.2.2.2.1 nos rv.2.2.2.2) H locs → W p l e rm_X8_seen s m args below meth c H locs 0 0 Q (F0 m pc ls [.int rv.1])) : ∀ (house_sights_cells : (Nat → Int32)) (house_sights_rows : Int32) (bads : Int32) (fulls : Int32) (H : Heap) (locs : List Loc) (ls : Array Slot), f_X8_seen_b43 house_guests_rows house_sights_cells house_sights_rows bads fulls = some rv → sS D vwCl A s.heap (wd_X8_seen cI cB cZ a_this a_house a_house_wets a_house_guests a_house_guests_cells a_house_sights a_house_sights_cells a_house_remarks a_house_marks a_house_past a_spare a_image0 a_image1 a_script a_lineup a_wits house_guests_rows house_sights_cells house_sights_rows house_host house_rooms house_night house_wheels house_turned kept0 kept1 above below_ bads nos fulls) H locs → lv_has ls 5 [(0, .ref a_this)] → W p l e rm_X8_seen s m args below meth c H locs 0 0 Q (F0 m 43 ls []) := by
  obtain ⟨hx, hb, hml, hown, hts, hK, hA⟩ := id C0
  have inX1 : ∀ w ∈ u_ws RX1 TX1 11, w ∈ wsX8_seen := inX1_X8_seen
  have inX8 : ∀ w ∈ u_ws RX8 TX8 14, w ∈ wsX8_seen := inX8_X8_seen
  intro house_sights_cells house_sights_rows bads fulls H locs ls h hS hl
  unfold f_X8_seen_b43 at h
  refine lv_aload_n hx hb dX8_seen_43 rfl (lv_at hl 0 rfl) ?_
  obtain ⟨q2, hq2, h⟩ := s_bind h
  refine r_calliV (r := q2.1) (As := []) (rest := []) (wc := (wd_X8_bad cI cB cZ a_this a_house a_spare a_image0 a_image1 a_script a_lineup a_wits kept0 kept1 above below_ bads nos fulls)) (w1 := (wd_X8_bad cI cB cZ a_this a_house a_spare a_image0 a_image1 a_script a_lineup a_wits kept0 kept1 above below_ q2.2 nos fulls)) (ws' := (wd_X8_seen cI cB cZ a_this a_house a_house_wets a_house_guests a_house_guests_cells a_house_sights a_house_sights_cells a_house_remarks a_house_marks a_house_past a_spare a_image0 a_image1 a_script a_lineup a_wits house_guests_rows house_sights_cells house_sights_rows house_host house_rooms house_night house_wheels house_turned kept0 kept1 above below_ q2.2 nos fulls)) hx hb hml hown hts hK hA hl hS (c_X8_bad l D cI cB cZ a_this a_house a_spare a_image0 a_image1 a_script a_lineup a_wits kept0 kept1 above below_ bads nos fulls _ _ hq2) (cwV 0 hts gX8_seen_X8_bad rfl rfl rfl (by decide +kernel) ⟨Nat.le_of_ble_eq_true rfl, Nat.le_of_ble_eq_true rfl⟩) 0 rfl rfl [0] rfl rfl rfl [.inr 0, .inl 1, .inl 2, .inl 3, .inl 4] rfl rfl rfl rfl (Nat.le_of_ble_eq_true rfl) dX8_seen_44 (fun H locs hS => ?_)
  obtain rfl := Option.some.inj h
  exact hend _ _ _ _ dX8_seen_47 hS
def f_X8_seen  (house_guests_rows : Int32) (house_sights_cells : (Nat → Int32)) (house_sights_rows : Int32) (bads : Int32) (fulls : Int32) (p1 : Int32) (p2 : Int32) (p3 : Int32) (p4 : Int32) : Option (Int32 × (Nat → Int32) × Int32 × Int32 × Int32) := ((f_X1_isThere house_guests_rows p1).bind fun q3 => (if q3 = 0 then f_X8_seen_b18  house_guests_rows house_sights_cells house_sights_rows bads fulls else ((f_X8_isWord p2).bind fun q5 => (if q5 = 0 then f_X8_seen_b18  house_guests_rows house_sights_cells house_sights_rows bads fulls else ((f_X8_within p3 (0 : Int32) (99 : Int32)).bind fun q7 => (if q7 = 0 then f_X8_seen_b43  house_guests_rows house_sights_cells house_sights_rows bads fulls else ((f_X8_within p4 (0 : Int32) (1 : Int32)).bind fun q9 => (if q9 = 0 then f_X8_seen_b43  house_guests_rows house_sights_cells house_sights_rows bads fulls else ((f_X8_written 20 (4 : Int32) (5 : Int32) fulls house_sights_cells house_sights_rows p1 p2 p3 p4 (0 : Int32)).bind fun q11 => some (q11.1, q11.2.2.1, q11.2.2.2, bads, q11.2.1))))))))))
set_option maxHeartbeats 4000000 in
set_option maxRecDepth 100000 in
theorem c_X8_seen (l : Launch) (D : va_G) (cI cB cZ : ClassId) (a_this : Nat) (a_house : Nat) (a_house_wets : Nat) (a_house_guests : Nat) (a_house_guests_cells : Nat) (a_house_sights : Nat) (a_house_sights_cells : Nat) (a_house_remarks : Nat) (a_house_marks : Nat) (a_house_past : Nat) (a_spare : Nat) (a_image0 : Nat) (a_image1 : Nat) (a_script : Nat) (a_lineup : Nat) (a_wits : Nat) (house_guests_rows : Int32) (house_sights_cells : (Nat → Int32)) (house_sights_rows : Int32) (house_host : Int32) (house_rooms : Int32) (house_night : Int32) (house_wheels : Int32) (house_turned : Int32) (kept0 : Int32) (kept1 : Int32) (above : Int32) (below_ : Int32) (bads : Int32) (nos : Int32) (fulls : Int32) (p1 : Int32) (p2 : Int32) (p3 : Int32) (p4 : Int32) (rv : Int32 × (Nat → Int32) × Int32 × Int32 × Int32) (sz : Nat) (hf : f_X8_seen house_guests_rows house_sights_cells house_sights_rows bads fulls p1 p2 p3 p4 = some rv) : Met l yX8_seen wsX8_seen rm_X8_seen (sPc D vwCl (s_tys cI cB cZ) [.ref a_this, .int p1, .int p2, .int p3, .int p4] (wd_X8_seen cI cB cZ a_this a_house a_house_wets a_house_guests a_house_guests_cells a_house_sights a_house_sights_cells a_house_remarks a_house_marks a_house_past a_spare a_image0 a_image1 a_script a_lineup a_wits house_guests_rows house_sights_cells house_sights_rows house_host house_rooms house_night house_wheels house_turned kept0 kept1 above below_ bads nos fulls) sz) (sQi D vwCl (wd_X8_seen cI cB cZ a_this a_house a_house_wets a_house_guests a_house_guests_cells a_house_sights a_house_sights_cells a_house_remarks a_house_marks a_house_past a_spare a_image0 a_image1 a_script a_lineup a_wits house_guests_rows house_sights_cells house_sights_rows house_host house_rooms house_night house_wheels house_turned kept0 kept1 above below_ bads nos fulls) (wd_X8_seen cI cB cZ a_this a_house a_house_wets a_house_guests a_house_guests_cells a_house_sights a_house_sights_cells a_house_remarks a_house_marks a_house_past a_spare a_image0 a_image1 a_script a_lineup a_wits house_guests_rows rv.2.1 rv.2.2.1 house_host house_rooms house_night house_wheels house_turned kept0 kept1 above below_ rv.2.2.2.1 nos rv.2.2.2.2) sz rv.1) 0 0 (va_A (wd_X8_seen cI cB cZ a_this a_house a_house_wets a_house_guests a_house_guests_cells a_house_sights a_house_sights_cells a_house_remarks a_house_marks a_house_past a_spare a_image0 a_image1 a_script a_lineup a_wits house_guests_rows house_sights_cells house_sights_rows house_host house_rooms house_night house_wheels house_turned kept0 kept1 above below_ bads nos fulls) sz) := by
  refine s_enter_n (cc := cX8_seen) (nL := 5) (r := rv.1) (by decide) rfl (Nat.le_of_ble_eq_true rfl) ?_
  intro p e s m args below meth c A Q C0 hend ls hl hS
  have h := hf
  clear hf
  replace hl : lv_has ls 5 [(0, .ref a_this), (1, .int p1), (2, .int p2), (3, .int p3), (4, .int p4)] := hl
  unfold f_X8_seen at h
  obtain ⟨hx, hb, hml, hown, hts, hK, hA⟩ := id C0
  have inX1 : ∀ w ∈ u_ws RX1 TX1 11, w ∈ wsX8_seen := inX1_X8_seen
  have inX8 : ∀ w ∈ u_ws RX8 TX8 14, w ∈ wsX8_seen := inX8_X8_seen
  refine lv_aload_n hx hb dX8_seen_0 rfl (lv_at hl 0 rfl) ?_
  refine s_get (C := RX8) (T := TX8) (N := 14) hx hb hts inX8 hown hK hS 0 rfl rfl 0 (by decide) (hts (.fieldLink RX8 10 "InnTurned" "house" "LInnTurned$House;") (List.mem_of_getElem? (i := 1) rfl)) rfl rfl dX8_seen_1 ?_
  refine lv_iload_n hx hb dX8_seen_4 rfl (lv_at hl 1 rfl) ?_
  obtain ⟨q3, hq3, h⟩ := s_bind h
  refine u_calliV (r := q3) (As := [.int p1]) (rest := []) (wc := (wd_X1_isThere cI cB cZ a_house a_house_wets a_house_guests a_house_guests_cells a_house_sights a_house_remarks a_house_marks a_house_past house_guests_rows house_host house_rooms house_night house_wheels house_turned)) hx hb hml hown hts hK hA hl hS (c_X1_isThere l D cI cB cZ a_house a_house_wets a_house_guests a_house_guests_cells a_house_sights a_house_remarks a_house_marks a_house_past house_guests_rows house_host house_rooms house_night house_wheels house_turned p1 _ _ hq3) (cwV 1 hts gX8_seen_X1_isThere rfl rfl rfl (by decide +kernel) ⟨Nat.le_of_ble_eq_true rfl, Nat.le_of_ble_eq_true rfl⟩) 1 rfl rfl [1, 2] rfl rfl rfl rfl (Nat.le_of_ble_eq_true rfl) dX8_seen_5 (fun H locs hS => ?_)
  refine lv_if_eq (tgt := 18) hx hb dX8_seen_8 (by decide) (fun c4 => ?_) (fun c4 => ?_)
  · replace h := s_yes c4 h
    exact w_X8_seen_b18 C0 hend  house_sights_cells house_sights_rows bads fulls _ _ _ h hS (lv_sub hl [0] rfl)
  replace h := s_no c4 h
  refine lv_iload_n hx hb dX8_seen_11 rfl (lv_at hl 2 rfl) ?_
  obtain ⟨q5, hq5, h⟩ := s_bind h
  refine u_calliS (r := q5) (As := [.int p2]) (rest := []) (wc := ([] : va_W)) hx hb hml hown hts hK hA hl hS (c_X8_isWord l D cI cB cZ p2 _ _ hq5) (va_cwS 1 hts gX8_seen_X8_isWord rfl rfl rfl (by decide +kernel) ⟨Nat.le_of_ble_eq_true rfl, Nat.le_of_ble_eq_true rfl⟩) [] rfl rfl rfl rfl (Nat.le_of_ble_eq_true rfl) dX8_seen_12 (fun H locs hS => ?_)
  refine lv_if_ne (tgt := 23) hx hb dX8_seen_15 (by decide) (fun c6 => ?_) (fun c6 => ?_)
  · replace h := s_no c6 h
    refine lv_iload_n hx hb dX8_seen_23 rfl (lv_at hl 3 rfl) ?_
    refine lv_iconst (v := (0 : Int32)) hx hb dX8_seen_24 (by decide) ?_
    refine lv_bipush (v := (99 : Int32)) hx hb dX8_seen_25 (by decide) ?_
    obtain ⟨q7, hq7, h⟩ := s_bind h
    refine u_calliS (r := q7) (As := [.int p3, .int (0 : Int32), .int (99 : Int32)]) (rest := []) (wc := ([] : va_W)) hx hb hml hown hts hK hA hl hS (c_X8_within l D cI cB cZ p3 (0 : Int32) (99 : Int32) _ _ hq7) (va_cwS 3 hts gX8_seen_X8_within rfl rfl rfl (by decide +kernel) ⟨Nat.le_of_ble_eq_true rfl, Nat.le_of_ble_eq_true rfl⟩) [] rfl rfl rfl rfl (Nat.le_of_ble_eq_true rfl) dX8_seen_27 (fun H locs hS => ?_)
    refine lv_if_eq (tgt := 43) hx hb dX8_seen_30 (by decide) (fun c8 => ?_) (fun c8 => ?_)
    · replace h := s_yes c8 h
      exact w_X8_seen_b43 C0 hend  house_sights_cells house_sights_rows bads fulls _ _ _ h hS (lv_sub hl [0] rfl)
    replace h := s_no c8 h
    refine lv_iload hx hb dX8_seen_33 (lv_at hl 4 rfl) ?_
    refine lv_iconst (v := (0 : Int32)) hx hb dX8_seen_35 (by decide) ?_
    refine lv_iconst (v := (1 : Int32)) hx hb dX8_seen_36 (by decide) ?_
    obtain ⟨q9, hq9, h⟩ := s_bind h
    refine u_calliS (r := q9) (As := [.int p4, .int (0 : Int32), .int (1 : Int32)]) (rest := []) (wc := ([] : va_W)) hx hb hml hown hts hK hA hl hS (c_X8_within l D cI cB cZ p4 (0 : Int32) (1 : Int32) _ _ hq9) (va_cwS 3 hts gX8_seen_X8_within rfl rfl rfl (by decide +kernel) ⟨Nat.le_of_ble_eq_true rfl, Nat.le_of_ble_eq_true rfl⟩) [] rfl rfl rfl rfl (Nat.le_of_ble_eq_true rfl) dX8_seen_37 (fun H locs hS => ?_)
    refine lv_if_ne (tgt := 48) hx hb dX8_seen_40 (by decide) (fun c10 => ?_) (fun c10 => ?_)
    · replace h := s_no c10 h
      refine lv_aload_n hx hb dX8_seen_48 rfl (lv_at hl 0 rfl) ?_
      refine lv_aload_n hx hb dX8_seen_49 rfl (lv_at hl 0 rfl) ?_
      refine s_get (C := RX8) (T := TX8) (N := 14) hx hb hts inX8 hown hK hS 0 rfl rfl 0 (by decide) (hts (.fieldLink RX8 10 "InnTurned" "house" "LInnTurned$House;") (List.mem_of_getElem? (i := 1) rfl)) rfl rfl dX8_seen_50 ?_
      refine s_getN (C := RX1) (T := TX1) (N := 11) hx hb hts inX1 hown hK hS 1 rfl rfl 2 (by decide) 11 rfl rfl rfl dX8_seen_53 ?_
      refine lv_iload_n hx hb dX8_seen_56 rfl (lv_at hl 1 rfl) ?_
      refine lv_iload_n hx hb dX8_seen_57 rfl (lv_at hl 2 rfl) ?_
      refine lv_iload_n hx hb dX8_seen_58 rfl (lv_at hl 3 rfl) ?_
      refine lv_iload hx hb dX8_seen_59 (lv_at hl 4 rfl) ?_
      refine lv_iconst (v := (0 : Int32)) hx hb dX8_seen_61 (by decide) ?_
      obtain ⟨q11, hq11, h⟩ := s_bind h
      refine r_calliV (r := q11.1) (As := [.ref a_house_sights, .int p1, .int p2, .int p3, .int p4, .int (0 : Int32)]) (rest := []) (wc := (wd_X8_written cI cB cZ a_this a_house a_spare a_image0 a_image1 a_script a_lineup a_wits a_house_sights a_house_sights_cells 20 kept0 kept1 above below_ bads nos fulls (4 : Int32) (5 : Int32) house_sights_cells house_sights_rows)) (w1 := (wd_X8_written cI cB cZ a_this a_house a_spare a_image0 a_image1 a_script a_lineup a_wits a_house_sights a_house_sights_cells 20 kept0 kept1 above below_ bads nos q11.2.1 (4 : Int32) (5 : Int32) q11.2.2.1 q11.2.2.2)) (ws' := (wd_X8_seen cI cB cZ a_this a_house a_house_wets a_house_guests a_house_guests_cells a_house_sights a_house_sights_cells a_house_remarks a_house_marks a_house_past a_spare a_image0 a_image1 a_script a_lineup a_wits house_guests_rows q11.2.2.1 q11.2.2.2 house_host house_rooms house_night house_wheels house_turned kept0 kept1 above below_ bads nos q11.2.1)) hx hb hml hown hts hK hA hl hS (c_X8_written l D cI cB cZ a_this a_house a_spare a_image0 a_image1 a_script a_lineup a_wits a_house_sights a_house_sights_cells 20 kept0 kept1 above below_ bads nos fulls (4 : Int32) (5 : Int32) house_sights_cells house_sights_rows p1 p2 p3 p4 (0 : Int32) _ _ hq11) (cwV 6 hts gX8_seen_X8_written rfl rfl rfl (by decide +kernel) ⟨Nat.le_of_ble_eq_true rfl, Nat.le_of_ble_eq_true rfl⟩) 0 rfl rfl [0, 3, 4] rfl rfl rfl [.inr 0, .inl 1, .inl 2, .inr 1, .inr 2] rfl rfl rfl rfl (Nat.le_of_ble_eq_true rfl) dX8_seen_62 (fun H locs hS => ?_)
      obtain rfl := Option.some.inj h
      exact hend _ _ _ _ dX8_seen_65 hS
    replace h := s_yes c10 h
    exact w_X8_seen_b43 C0 hend  house_sights_cells house_sights_rows bads fulls _ _ _ h hS (lv_sub hl [0] rfl)
  replace h := s_yes c6 h
  exact w_X8_seen_b18 C0 hend  house_sights_cells house_sights_rows bads fulls _ _ _ h hS (lv_sub hl [0] rfl)

-- InnTurned.often(II)I
def wd_X8_often (cI cB cZ : ClassId) (a_this : Nat) (a_house : Nat) (a_house_wets : Nat) (a_house_guests : Nat) (a_house_guests_cells : Nat) (a_house_sights : Nat) (a_house_sights_cells : Nat) (a_house_remarks : Nat) (a_house_marks : Nat) (a_house_past : Nat) (a_spare : Nat) (a_image0 : Nat) (a_image1 : Nat) (a_script : Nat) (a_lineup : Nat) (a_wits : Nat) (a_wits_answers : Nat)  (house_wets : (Nat → Int32)) (house_guests_cells : (Nat → Int32)) (house_guests_rows : Int32) (house_sights_cells : (Nat → Int32)) (house_sights_rows : Int32) (house_host : Int32) (house_rooms : Int32) (house_night : Int32) (house_wheels : Int32) (house_turned : Int32) (kept0 : Int32) (kept1 : Int32) (above : Int32) (below_ : Int32) (bads : Int32) (nos : Int32) (fulls : Int32) : va_W := [(a_this, .inr (5, [.ref a_house, .ref a_spare, .ref a_image0, .ref a_image1, .ref a_script, .ref a_lineup, .ref a_wits, .int kept0, .int kept1, .int above, .int below_, .int bads, .int nos, .int fulls])), (a_house, .inr (0, [.ref a_house_wets, .ref a_house_guests, .ref a_house_sights, .ref a_house_remarks, .ref a_house_marks, .ref a_house_past, .int house_host, .int house_rooms, .int house_night, .int house_wheels, .int house_turned])), (a_house_wets, .inl (cI, 6, .inl house_wets)), (a_house_guests, .inr (3, [.int 4, .int 7, .ref a_house_guests_cells, .int house_guests_rows])), (a_house_guests_cells, .inl (cI, 28, .inl house_guests_cells)), (a_house_sights, .inr (3, [.int 4, .int 5, .ref a_house_sights_cells, .int house_sights_rows])), (a_house_sights_cells, .inl (cI, 20, .inl house_sights_cells)), (a_wits, .inr (4, [.ref a_wits_answers]))]
abbrev rm_X8_often : Room := { frames := 5, cells := 0, slots := 0, locals := 125 }
set_option maxRecDepth 20000 in
theorem inX8_X8_often : ∀ w ∈ u_ws RX8 TX8 14, w ∈ wsX8_often := by decide +kernel
def f_X8_often_b20  (house_wets : (Nat → Int32)) (house_guests_cells : (Nat → Int32)) (house_guests_rows : Int32) (house_sights_cells : (Nat → Int32)) (house_sights_rows : Int32) (house_host : Int32) (bads : Int32) : Option (Int32 × Int32) := ((f_X8_bad bads).bind fun q1 => some (q1.1, q1.2))
set_option maxHeartbeats 4000000 in
set_option maxRecDepth 100000 in
theorem w_X8_often_b20 {p : Program} {l : Launch} {e : Env} {s : State} {m : MethodId} {args : Array Value} {below : List Frame} {meth : Method} {c : Code} {A : Nat → Prop} {Q : State → Prop} {D : va_G} {cI cB cZ : ClassId} {a_this a_house a_house_wets a_house_guests a_house_guests_cells a_house_sights a_house_sights_cells a_house_remarks a_house_marks a_house_past a_spare a_image0 a_image1 a_script a_lineup a_wits a_wits_answers : Nat} {house_wets : (Nat → Int32)} {house_guests_cells : (Nat → Int32)} {house_guests_rows : Int32} {house_sights_cells : (Nat → Int32)} {house_sights_rows : Int32} {house_host : Int32} {house_rooms : Int32} {house_night : Int32} {house_wheels : Int32} {house_turned : Int32} {kept0 : Int32} {kept1 : Int32} {above : Int32} {below_ : Int32} {nos : Int32} {fulls : Int32} (C0 : Cx p s m args c cX8_often 4 RX8 wsX8_often D (s_tys cI cB cZ) A) {rv : Int32 × Int32} (hend : ∀ (pc : Nat) (H : Heap) (locs : List Loc) (ls : Array Slot), decode cX8_often pc = .ok (.ireturn, 1) → sS D vwCl A s.heap (wd_X8_often cI cB cZ a_this a_house a_house_wets a_house_guests a_house_guests_cells a_house_sights a_house_sights_cells a_house_remarks a_house_marks a_house_past a_spare a_image0 a_image1 a_script a_lineup a_wits a_wits_answers house_wets house_guests_cells house_guests_rows house_sights_cells house_sights_rows house_host house_rooms house_night house_wheels house_turned kept0 kept1 above below_ rv.2 nos fulls) H locs → W p l e rm_X8_often s m args below meth c H locs 0 0 Q (F0 m pc ls [.int rv.1])) : ∀ (bads : Int32) (H : Heap) (locs : List Loc) (ls : Array Slot), f_X8_often_b20 house_wets house_guests_cells house_guests_rows house_sights_cells house_sights_rows house_host bads = some rv → sS D vwCl A s.heap (wd_X8_often cI cB cZ a_this a_house a_house_wets a_house_guests a_house_guests_cells a_house_sights a_house_sights_cells a_house_remarks a_house_marks a_house_past a_spare a_image0 a_image1 a_script a_lineup a_wits a_wits_answers house_wets house_guests_cells house_guests_rows house_sights_cells house_sights_rows house_host house_rooms house_night house_wheels house_turned kept0 kept1 above below_ bads nos fulls) H locs → lv_has ls 4 [(0, .ref a_this)] → W p l e rm_X8_often s m args below meth c H locs 0 0 Q (F0 m 20 ls []) := by
  obtain ⟨hx, hb, hml, hown, hts, hK, hA⟩ := id C0
  have inX8 : ∀ w ∈ u_ws RX8 TX8 14, w ∈ wsX8_often := inX8_X8_often
  intro bads H locs ls h hS hl
  unfold f_X8_often_b20 at h
  refine lv_aload_n hx hb dX8_often_20 rfl (lv_at hl 0 rfl) ?_
  obtain ⟨q1, hq1, h⟩ := s_bind h
  refine r_calliV (r := q1.1) (As := []) (rest := []) (wc := (wd_X8_bad cI cB cZ a_this a_house a_spare a_image0 a_image1 a_script a_lineup a_wits kept0 kept1 above below_ bads nos fulls)) (w1 := (wd_X8_bad cI cB cZ a_this a_house a_spare a_image0 a_image1 a_script a_lineup a_wits kept0 kept1 above below_ q1.2 nos fulls)) (ws' := (wd_X8_often cI cB cZ a_this a_house a_house_wets a_house_guests a_house_guests_cells a_house_sights a_house_sights_cells a_house_remarks a_house_marks a_house_past a_spare a_image0 a_image1 a_script a_lineup a_wits a_wits_answers house_wets house_guests_cells house_guests_rows house_sights_cells house_sights_rows house_host house_rooms house_night house_wheels house_turned kept0 kept1 above below_ q1.2 nos fulls)) hx hb hml hown hts hK hA hl hS (c_X8_bad l D cI cB cZ a_this a_house a_spare a_image0 a_image1 a_script a_lineup a_wits kept0 kept1 above below_ bads nos fulls _ _ hq1) (cwV 0 hts gX8_often_X8_bad rfl rfl rfl (by decide +kernel) ⟨Nat.le_of_ble_eq_true rfl, Nat.le_of_ble_eq_true rfl⟩) 0 rfl rfl [0] rfl rfl rfl [.inr 0, .inl 1, .inl 2, .inl 3, .inl 4, .inl 5, .inl 6, .inl 7] rfl rfl rfl rfl (Nat.le_of_ble_eq_true rfl) dX8_often_21 (fun H locs hS => ?_)
  obtain rfl := Option.some.inj h
  exact hend _ _ _ _ dX8_often_24 hS
def f_X8_often  (house_wets : (Nat → Int32)) (house_guests_cells : (Nat → Int32)) (house_guests_rows : Int32) (house_sights_cells : (Nat → Int32)) (house_sights_rows : Int32) (house_host : Int32) (bads : Int32) (p1 : Int32) (p2 : Int32) : Option (Int32 × Int32) := ((f_X1_isThere house_guests_rows p1).bind fun q2 => (if q2 = 0 then f_X8_often_b20  house_wets house_guests_cells house_guests_rows house_sights_cells house_sights_rows house_host bads else ((f_X8_within p2 (0 : Int32) (2 : Int32)).bind fun q4 => (if q4 = 0 then f_X8_often_b20  house_wets house_guests_cells house_guests_rows house_sights_cells house_sights_rows house_host bads else ((f_X7_visitsThatFit house_wets house_guests_cells house_guests_rows house_sights_cells house_sights_rows house_host p1).bind fun q6 => (if p2 = 0 then ((f_J6_bitCount_0f7a4 q6).bind fun q11 => some (q11, bads)) else (if p2 = (1 : Int32) then ((f_X7_least q6).bind fun q10 => some (q10, bads)) else ((f_X7_greatest q6).bind fun q9 => some (q9, bads)))))))))
set_option maxHeartbeats 4000000 in
set_option maxRecDepth 100000 in
theorem c_X8_often (l : Launch) (D : va_G) (cI cB cZ : ClassId) (a_this : Nat) (a_house : Nat) (a_house_wets : Nat) (a_house_guests : Nat) (a_house_guests_cells : Nat) (a_house_sights : Nat) (a_house_sights_cells : Nat) (a_house_remarks : Nat) (a_house_marks : Nat) (a_house_past : Nat) (a_spare : Nat) (a_image0 : Nat) (a_image1 : Nat) (a_script : Nat) (a_lineup : Nat) (a_wits : Nat) (a_wits_answers : Nat) (house_wets : (Nat → Int32)) (house_guests_cells : (Nat → Int32)) (house_guests_rows : Int32) (house_sights_cells : (Nat → Int32)) (house_sights_rows : Int32) (house_host : Int32) (house_rooms : Int32) (house_night : Int32) (house_wheels : Int32) (house_turned : Int32) (kept0 : Int32) (kept1 : Int32) (above : Int32) (below_ : Int32) (bads : Int32) (nos : Int32) (fulls : Int32) (p1 : Int32) (p2 : Int32) (rv : Int32 × Int32) (sz : Nat) (hf : f_X8_often house_wets house_guests_cells house_guests_rows house_sights_cells house_sights_rows house_host bads p1 p2 = some rv) : Met l yX8_often wsX8_often rm_X8_often (sPc D vwCl (s_tys cI cB cZ) [.ref a_this, .int p1, .int p2] (wd_X8_often cI cB cZ a_this a_house a_house_wets a_house_guests a_house_guests_cells a_house_sights a_house_sights_cells a_house_remarks a_house_marks a_house_past a_spare a_image0 a_image1 a_script a_lineup a_wits a_wits_answers house_wets house_guests_cells house_guests_rows house_sights_cells house_sights_rows house_host house_rooms house_night house_wheels house_turned kept0 kept1 above below_ bads nos fulls) sz) (sQi D vwCl (wd_X8_often cI cB cZ a_this a_house a_house_wets a_house_guests a_house_guests_cells a_house_sights a_house_sights_cells a_house_remarks a_house_marks a_house_past a_spare a_image0 a_image1 a_script a_lineup a_wits a_wits_answers house_wets house_guests_cells house_guests_rows house_sights_cells house_sights_rows house_host house_rooms house_night house_wheels house_turned kept0 kept1 above below_ bads nos fulls) (wd_X8_often cI cB cZ a_this a_house a_house_wets a_house_guests a_house_guests_cells a_house_sights a_house_sights_cells a_house_remarks a_house_marks a_house_past a_spare a_image0 a_image1 a_script a_lineup a_wits a_wits_answers house_wets house_guests_cells house_guests_rows house_sights_cells house_sights_rows house_host house_rooms house_night house_wheels house_turned kept0 kept1 above below_ rv.2 nos fulls) sz rv.1) 0 0 (va_A (wd_X8_often cI cB cZ a_this a_house a_house_wets a_house_guests a_house_guests_cells a_house_sights a_house_sights_cells a_house_remarks a_house_marks a_house_past a_spare a_image0 a_image1 a_script a_lineup a_wits a_wits_answers house_wets house_guests_cells house_guests_rows house_sights_cells house_sights_rows house_host house_rooms house_night house_wheels house_turned kept0 kept1 above below_ bads nos fulls) sz) := by
  refine s_enter_n (cc := cX8_often) (nL := 4) (r := rv.1) (by decide) rfl (Nat.le_of_ble_eq_true rfl) ?_
  intro p e s m args below meth c A Q C0 hend ls hl hS
  have h := hf
  clear hf
  replace hl : lv_has ls 4 [(0, .ref a_this), (1, .int p1), (2, .int p2)] := hl
  unfold f_X8_often at h
  obtain ⟨hx, hb, hml, hown, hts, hK, hA⟩ := id C0
  have inX8 : ∀ w ∈ u_ws RX8 TX8 14, w ∈ wsX8_often := inX8_X8_often
  refine lv_aload_n hx hb dX8_often_0 rfl (lv_at hl 0 rfl) ?_
  refine s_get (C := RX8) (T := TX8) (N := 14) hx hb hts inX8 hown hK hS 0 rfl rfl 0 (by decide) (hts (.fieldLink RX8 10 "InnTurned" "house" "LInnTurned$House;") (List.mem_of_getElem? (i := 1) rfl)) rfl rfl dX8_often_1 ?_
  refine lv_iload_n hx hb dX8_often_4 rfl (lv_at hl 1 rfl) ?_
  obtain ⟨q2, hq2, h⟩ := s_bind h
  refine u_calliV (r := q2) (As := [.int p1]) (rest := []) (wc := (wd_X1_isThere cI cB cZ a_house a_house_wets a_house_guests a_house_guests_cells a_house_sights a_house_remarks a_house_marks a_house_past house_guests_rows house_host house_rooms house_night house_wheels house_turned)) hx hb hml hown hts hK hA hl hS (c_X1_isThere l D cI cB cZ a_house a_house_wets a_house_guests a_house_guests_cells a_house_sights a_house_remarks a_house_marks a_house_past house_guests_rows house_host house_rooms house_night house_wheels house_turned p1 _ _ hq2) (cwV 1 hts gX8_often_X1_isThere rfl rfl rfl (by decide +kernel) ⟨Nat.le_of_ble_eq_true rfl, Nat.le_of_ble_eq_true rfl⟩) 1 rfl rfl [1, 3] rfl rfl rfl rfl (Nat.le_of_ble_eq_true rfl) dX8_often_5 (fun H locs hS => ?_)
  refine lv_if_eq (tgt := 20) hx hb dX8_often_8 (by decide) (fun c3 => ?_) (fun c3 => ?_)
  · replace h := s_yes c3 h
    exact w_X8_often_b20 C0 hend  bads _ _ _ h hS (lv_sub hl [0] rfl)
  replace h := s_no c3 h
  refine lv_iload_n hx hb dX8_often_11 rfl (lv_at hl 2 rfl) ?_
  refine lv_iconst (v := (0 : Int32)) hx hb dX8_often_12 (by decide) ?_
  refine lv_iconst (v := (2 : Int32)) hx hb dX8_often_13 (by decide) ?_
  obtain ⟨q4, hq4, h⟩ := s_bind h
  refine u_calliS (r := q4) (As := [.int p2, .int (0 : Int32), .int (2 : Int32)]) (rest := []) (wc := ([] : va_W)) hx hb hml hown hts hK hA hl hS (c_X8_within l D cI cB cZ p2 (0 : Int32) (2 : Int32) _ _ hq4) (va_cwS 3 hts gX8_often_X8_within rfl rfl rfl (by decide +kernel) ⟨Nat.le_of_ble_eq_true rfl, Nat.le_of_ble_eq_true rfl⟩) [] rfl rfl rfl rfl (Nat.le_of_ble_eq_true rfl) dX8_often_14 (fun H locs hS => ?_)
  refine lv_if_ne (tgt := 25) hx hb dX8_often_17 (by decide) (fun c5 => ?_) (fun c5 => ?_)
  · replace h := s_no c5 h
    refine lv_aload_n hx hb dX8_often_25 rfl (lv_at hl 0 rfl) ?_
    refine s_get (C := RX8) (T := TX8) (N := 14) hx hb hts inX8 hown hK hS 0 rfl rfl 6 (by decide) (hts (.fieldLink RX8 42 "InnTurned" "wits" "LInnTurned$Wits;") (List.mem_of_getElem? (i := 2) rfl)) rfl rfl dX8_often_26 ?_
    refine lv_aload_n hx hb dX8_often_29 rfl (lv_at hl 0 rfl) ?_
    refine s_get (C := RX8) (T := TX8) (N := 14) hx hb hts inX8 hown hK hS 0 rfl rfl 0 (by decide) (hts (.fieldLink RX8 10 "InnTurned" "house" "LInnTurned$House;") (List.mem_of_getElem? (i := 1) rfl)) rfl rfl dX8_often_30 ?_
    refine lv_iload_n hx hb dX8_often_33 rfl (lv_at hl 1 rfl) ?_
    obtain ⟨q6, hq6, h⟩ := s_bind h
    refine u_calliV (r := q6) (As := [.ref a_house, .int p1]) (rest := []) (wc := (wd_X7_visitsThatFit cI cB cZ a_wits a_wits_answers a_house a_house_wets a_house_guests a_house_guests_cells a_house_sights a_house_sights_cells a_house_remarks a_house_marks a_house_past house_wets house_guests_cells house_guests_rows house_sights_cells house_sights_rows house_host house_rooms house_night house_wheels house_turned)) hx hb hml hown hts hK hA hl hS (c_X7_visitsThatFit l D cI cB cZ a_wits a_wits_answers a_house a_house_wets a_house_guests a_house_guests_cells a_house_sights a_house_sights_cells a_house_remarks a_house_marks a_house_past house_wets house_guests_cells house_guests_rows house_sights_cells house_sights_rows house_host house_rooms house_night house_wheels house_turned p1 _ _ hq6) (cwV 2 hts gX8_often_X7_visitsThatFit rfl rfl rfl (by decide +kernel) ⟨Nat.le_of_ble_eq_true rfl, Nat.le_of_ble_eq_true rfl⟩) 7 rfl rfl [7, 1, 2, 3, 4, 5, 6] rfl rfl rfl rfl (Nat.le_of_ble_eq_true rfl) dX8_often_34 (fun H locs hS => ?_)
    refine lv_istore_n (lv' := [(3, .int q6), (0, .ref a_this), (1, .int p1), (2, .int p2)]) hx hb dX8_often_37 rfl hl (by decide) rfl (fun ls hl => ?_)
    refine lv_iload_n hx hb dX8_often_38 rfl (lv_at hl 3 rfl) ?_
    refine lv_if_ne (tgt := 47) hx hb dX8_often_39 (by decide) (fun c7 => ?_) (fun c7 => ?_)
    · replace h := s_no c7 h
      refine lv_iload_n hx hb dX8_often_47 rfl (lv_at hl 3 rfl) ?_
      refine lv_iconst (v := (1 : Int32)) hx hb dX8_often_48 (by decide) ?_
      refine lv_icmp_ne (tgt := 59) hx hb dX8_often_49 (by decide) (fun c8 => ?_) (fun c8 => ?_)
      · replace h := s_no c8 h
        refine lv_iload_n hx hb dX8_often_59 rfl (lv_at hl 0 rfl) ?_
        obtain ⟨q9, hq9, h⟩ := s_bind h
        refine u_calliS (r := q9) (As := [.int q6]) (rest := []) (wc := ([] : va_W)) hx hb hml hown hts hK hA hl hS (c_X7_greatest l D cI cB cZ q6 _ _ hq9) (va_cwS 1 hts gX8_often_X7_greatest rfl rfl rfl (by decide +kernel) ⟨Nat.le_of_ble_eq_true rfl, Nat.le_of_ble_eq_true rfl⟩) [] rfl rfl rfl rfl (Nat.le_of_ble_eq_true rfl) dX8_often_60 (fun H locs hS => ?_)
        obtain rfl := Option.some.inj h
        exact hend _ _ _ _ dX8_often_63 hS
      replace h := s_yes c8 h
      refine lv_iload_n hx hb dX8_often_52 rfl (lv_at hl 0 rfl) ?_
      obtain ⟨q10, hq10, h⟩ := s_bind h
      refine u_calliS (r := q10) (As := [.int q6]) (rest := []) (wc := ([] : va_W)) hx hb hml hown hts hK hA hl hS (c_X7_least l D cI cB cZ q6 _ _ hq10) (va_cwS 1 hts gX8_often_X7_least rfl rfl rfl (by decide +kernel) ⟨Nat.le_of_ble_eq_true rfl, Nat.le_of_ble_eq_true rfl⟩) [] rfl rfl rfl rfl (Nat.le_of_ble_eq_true rfl) dX8_often_53 (fun H locs hS => ?_)
      refine lv_goto (tgt := 63) hx hb dX8_often_56 (by decide) ?_
      obtain rfl := Option.some.inj h
      exact hend _ _ _ _ dX8_often_63 hS
    replace h := s_yes c7 h
    refine lv_iload_n hx hb dX8_often_42 rfl (lv_at hl 0 rfl) ?_
    obtain ⟨q11, hq11, h⟩ := s_bind h
    refine u_calliS (r := q11) (As := [.int q6]) (rest := []) (wc := ([] : va_W)) hx hb hml hown hts hK hA hl hS (c_J6_bitCount_0f7a4 l D cI cB cZ q6 _ _ hq11) (va_cwS 1 hts gX8_often_J6_bitCount_0f7a4 rfl rfl rfl (by decide +kernel) ⟨Nat.le_of_ble_eq_true rfl, Nat.le_of_ble_eq_true rfl⟩) [] rfl rfl rfl rfl (Nat.le_of_ble_eq_true rfl) dX8_often_43 (fun H locs hS => ?_)
    obtain rfl := Option.some.inj h
    exact hend _ _ _ _ dX8_often_46 hS
  replace h := s_yes c5 h
  exact w_X8_often_b20 C0 hend  bads _ _ _ h hS (lv_sub hl [0] rfl)

-- InnTurned.tell(I)I
def wd_X8_tell (cI cB cZ : ClassId) (a_this : Nat) (a_house : Nat) (a_house_wets : Nat) (a_house_guests : Nat) (a_house_guests_cells : Nat) (a_house_sights : Nat) (a_house_sights_cells : Nat) (a_house_remarks : Nat) (a_house_marks : Nat) (a_house_past : Nat) (a_spare : Nat) (a_image0 : Nat) (a_image1 : Nat) (a_script : Nat) (a_lineup : Nat) (a_wits : Nat) (a_wits_answers : Nat)  (house_wets : (Nat → Int32)) (house_guests_cells : (Nat → Int32)) (house_guests_rows : Int32) (house_sights_cells : (Nat → Int32)) (house_sights_rows : Int32) (house_host : Int32) (house_rooms : Int32) (house_night : Int32) (house_wheels : Int32) (house_turned : Int32) (kept0 : Int32) (kept1 : Int32) (above : Int32) (below_ : Int32) (bads : Int32) (nos : Int32) (fulls : Int32) : va_W := [(a_this, .inr (5, [.ref a_house, .ref a_spare, .ref a_image0, .ref a_image1, .ref a_script, .ref a_lineup, .ref a_wits, .int kept0, .int kept1, .int above, .int below_, .int bads, .int nos, .int fulls])), (a_house, .inr (0, [.ref a_house_wets, .ref a_house_guests, .ref a_house_sights, .ref a_house_remarks, .ref a_house_marks, .ref a_house_past, .int house_host, .int house_rooms, .int house_night, .int house_wheels, .int house_turned])), (a_house_wets, .inl (cI, 6, .inl house_wets)), (a_house_guests, .inr (3, [.int 4, .int 7, .ref a_house_guests_cells, .int house_guests_rows])), (a_house_guests_cells, .inl (cI, 28, .inl house_guests_cells)), (a_house_sights, .inr (3, [.int 4, .int 5, .ref a_house_sights_cells, .int house_sights_rows])), (a_house_sights_cells, .inl (cI, 20, .inl house_sights_cells)), (a_wits, .inr (4, [.ref a_wits_answers]))]
abbrev rm_X8_tell : Room := { frames := 6, cells := 0, slots := 0, locals := 155 }
set_option maxRecDepth 20000 in
theorem inX8_X8_tell : ∀ w ∈ u_ws RX8 TX8 14, w ∈ wsX8_tell := by decide +kernel
def f_X8_tell  (house_wets : (Nat → Int32)) (house_guests_cells : (Nat → Int32)) (house_guests_rows : Int32) (house_sights_cells : (Nat → Int32)) (house_sights_rows : Int32) (house_host : Int32) (bads : Int32) (p1 : Int32) : Option (Int32 × Int32) := ((f_X1_isThere house_guests_rows p1).bind fun q1 => (if q1 = 0 then ((f_X8_bad bads).bind fun q3 => some (q3.1, q3.2)) else ((f_X7_bestNight house_wets house_guests_cells house_guests_rows house_sights_cells house_sights_rows house_host p1).bind fun q4 => some (q4, bads))))
set_option maxHeartbeats 4000000 in
set_option maxRecDepth 100000 in
theorem c_X8_tell (l : Launch) (D : va_G) (cI cB cZ : ClassId) (a_this : Nat) (a_house : Nat) (a_house_wets : Nat) (a_house_guests : Nat) (a_house_guests_cells : Nat) (a_house_sights : Nat) (a_house_sights_cells : Nat) (a_house_remarks : Nat) (a_house_marks : Nat) (a_house_past : Nat) (a_spare : Nat) (a_image0 : Nat) (a_image1 : Nat) (a_script : Nat) (a_lineup : Nat) (a_wits : Nat) (a_wits_answers : Nat) (house_wets : (Nat → Int32)) (house_guests_cells : (Nat → Int32)) (house_guests_rows : Int32) (house_sights_cells : (Nat → Int32)) (house_sights_rows : Int32) (house_host : Int32) (house_rooms : Int32) (house_night : Int32) (house_wheels : Int32) (house_turned : Int32) (kept0 : Int32) (kept1 : Int32) (above : Int32) (below_ : Int32) (bads : Int32) (nos : Int32) (fulls : Int32) (p1 : Int32) (rv : Int32 × Int32) (sz : Nat) (hf : f_X8_tell house_wets house_guests_cells house_guests_rows house_sights_cells house_sights_rows house_host bads p1 = some rv) : Met l yX8_tell wsX8_tell rm_X8_tell (sPc D vwCl (s_tys cI cB cZ) [.ref a_this, .int p1] (wd_X8_tell cI cB cZ a_this a_house a_house_wets a_house_guests a_house_guests_cells a_house_sights a_house_sights_cells a_house_remarks a_house_marks a_house_past a_spare a_image0 a_image1 a_script a_lineup a_wits a_wits_answers house_wets house_guests_cells house_guests_rows house_sights_cells house_sights_rows house_host house_rooms house_night house_wheels house_turned kept0 kept1 above below_ bads nos fulls) sz) (sQi D vwCl (wd_X8_tell cI cB cZ a_this a_house a_house_wets a_house_guests a_house_guests_cells a_house_sights a_house_sights_cells a_house_remarks a_house_marks a_house_past a_spare a_image0 a_image1 a_script a_lineup a_wits a_wits_answers house_wets house_guests_cells house_guests_rows house_sights_cells house_sights_rows house_host house_rooms house_night house_wheels house_turned kept0 kept1 above below_ bads nos fulls) (wd_X8_tell cI cB cZ a_this a_house a_house_wets a_house_guests a_house_guests_cells a_house_sights a_house_sights_cells a_house_remarks a_house_marks a_house_past a_spare a_image0 a_image1 a_script a_lineup a_wits a_wits_answers house_wets house_guests_cells house_guests_rows house_sights_cells house_sights_rows house_host house_rooms house_night house_wheels house_turned kept0 kept1 above below_ rv.2 nos fulls) sz rv.1) 0 0 (va_A (wd_X8_tell cI cB cZ a_this a_house a_house_wets a_house_guests a_house_guests_cells a_house_sights a_house_sights_cells a_house_remarks a_house_marks a_house_past a_spare a_image0 a_image1 a_script a_lineup a_wits a_wits_answers house_wets house_guests_cells house_guests_rows house_sights_cells house_sights_rows house_host house_rooms house_night house_wheels house_turned kept0 kept1 above below_ bads nos fulls) sz) := by
  refine s_enter_n (cc := cX8_tell) (nL := 2) (r := rv.1) (by decide) rfl (Nat.le_of_ble_eq_true rfl) ?_
  intro p e s m args below meth c A Q C0 hend ls hl hS
  have h := hf
  clear hf
  replace hl : lv_has ls 2 [(0, .ref a_this), (1, .int p1)] := hl
  unfold f_X8_tell at h
  obtain ⟨hx, hb, hml, hown, hts, hK, hA⟩ := id C0
  have inX8 : ∀ w ∈ u_ws RX8 TX8 14, w ∈ wsX8_tell := inX8_X8_tell
  refine lv_aload_n hx hb dX8_tell_0 rfl (lv_at hl 0 rfl) ?_
  refine s_get (C := RX8) (T := TX8) (N := 14) hx hb hts inX8 hown hK hS 0 rfl rfl 0 (by decide) (hts (.fieldLink RX8 10 "InnTurned" "house" "LInnTurned$House;") (List.mem_of_getElem? (i := 1) rfl)) rfl rfl dX8_tell_1 ?_
  refine lv_iload_n hx hb dX8_tell_4 rfl (lv_at hl 1 rfl) ?_
  obtain ⟨q1, hq1, h⟩ := s_bind h
  refine u_calliV (r := q1) (As := [.int p1]) (rest := []) (wc := (wd_X1_isThere cI cB cZ a_house a_house_wets a_house_guests a_house_guests_cells a_house_sights a_house_remarks a_house_marks a_house_past house_guests_rows house_host house_rooms house_night house_wheels house_turned)) hx hb hml hown hts hK hA hl hS (c_X1_isThere l D cI cB cZ a_house a_house_wets a_house_guests a_house_guests_cells a_house_sights a_house_remarks a_house_marks a_house_past house_guests_rows house_host house_rooms house_night house_wheels house_turned p1 _ _ hq1) (cwV 1 hts gX8_tell_X1_isThere rfl rfl rfl (by decide +kernel) ⟨Nat.le_of_ble_eq_true rfl, Nat.le_of_ble_eq_true rfl⟩) 1 rfl rfl [1, 3] rfl rfl rfl rfl (Nat.le_of_ble_eq_true rfl) dX8_tell_5 (fun H locs hS => ?_)
  refine lv_if_eq (tgt := 26) hx hb dX8_tell_8 (by decide) (fun c2 => ?_) (fun c2 => ?_)
  · replace h := s_yes c2 h
    refine lv_aload_n hx hb dX8_tell_26 rfl (lv_at hl 0 rfl) ?_
    obtain ⟨q3, hq3, h⟩ := s_bind h
    refine r_calliV (r := q3.1) (As := []) (rest := []) (wc := (wd_X8_bad cI cB cZ a_this a_house a_spare a_image0 a_image1 a_script a_lineup a_wits kept0 kept1 above below_ bads nos fulls)) (w1 := (wd_X8_bad cI cB cZ a_this a_house a_spare a_image0 a_image1 a_script a_lineup a_wits kept0 kept1 above below_ q3.2 nos fulls)) (ws' := (wd_X8_tell cI cB cZ a_this a_house a_house_wets a_house_guests a_house_guests_cells a_house_sights a_house_sights_cells a_house_remarks a_house_marks a_house_past a_spare a_image0 a_image1 a_script a_lineup a_wits a_wits_answers house_wets house_guests_cells house_guests_rows house_sights_cells house_sights_rows house_host house_rooms house_night house_wheels house_turned kept0 kept1 above below_ q3.2 nos fulls)) hx hb hml hown hts hK hA hl hS (c_X8_bad l D cI cB cZ a_this a_house a_spare a_image0 a_image1 a_script a_lineup a_wits kept0 kept1 above below_ bads nos fulls _ _ hq3) (cwV 0 hts gX8_tell_X8_bad rfl rfl rfl (by decide +kernel) ⟨Nat.le_of_ble_eq_true rfl, Nat.le_of_ble_eq_true rfl⟩) 0 rfl rfl [0] rfl rfl rfl [.inr 0, .inl 1, .inl 2, .inl 3, .inl 4, .inl 5, .inl 6, .inl 7] rfl rfl rfl rfl (Nat.le_of_ble_eq_true rfl) dX8_tell_27 (fun H locs hS => ?_)
    obtain rfl := Option.some.inj h
    exact hend _ _ _ _ dX8_tell_30 hS
  replace h := s_no c2 h
  refine lv_aload_n hx hb dX8_tell_11 rfl (lv_at hl 0 rfl) ?_
  refine s_get (C := RX8) (T := TX8) (N := 14) hx hb hts inX8 hown hK hS 0 rfl rfl 6 (by decide) (hts (.fieldLink RX8 42 "InnTurned" "wits" "LInnTurned$Wits;") (List.mem_of_getElem? (i := 2) rfl)) rfl rfl dX8_tell_12 ?_
  refine lv_aload_n hx hb dX8_tell_15 rfl (lv_at hl 0 rfl) ?_
  refine s_get (C := RX8) (T := TX8) (N := 14) hx hb hts inX8 hown hK hS 0 rfl rfl 0 (by decide) (hts (.fieldLink RX8 10 "InnTurned" "house" "LInnTurned$House;") (List.mem_of_getElem? (i := 1) rfl)) rfl rfl dX8_tell_16 ?_
  refine lv_iload_n hx hb dX8_tell_19 rfl (lv_at hl 1 rfl) ?_
  obtain ⟨q4, hq4, h⟩ := s_bind h
  refine u_calliV (r := q4) (As := [.ref a_house, .int p1]) (rest := []) (wc := (wd_X7_bestNight cI cB cZ a_wits a_wits_answers a_house a_house_wets a_house_guests a_house_guests_cells a_house_sights a_house_sights_cells a_house_remarks a_house_marks a_house_past house_wets house_guests_cells house_guests_rows house_sights_cells house_sights_rows house_host house_rooms house_night house_wheels house_turned)) hx hb hml hown hts hK hA hl hS (c_X7_bestNight l D cI cB cZ a_wits a_wits_answers a_house a_house_wets a_house_guests a_house_guests_cells a_house_sights a_house_sights_cells a_house_remarks a_house_marks a_house_past house_wets house_guests_cells house_guests_rows house_sights_cells house_sights_rows house_host house_rooms house_night house_wheels house_turned p1 _ _ hq4) (cwV 2 hts gX8_tell_X7_bestNight rfl rfl rfl (by decide +kernel) ⟨Nat.le_of_ble_eq_true rfl, Nat.le_of_ble_eq_true rfl⟩) 7 rfl rfl [7, 1, 2, 3, 4, 5, 6] rfl rfl rfl rfl (Nat.le_of_ble_eq_true rfl) dX8_tell_20 (fun H locs hS => ?_)
  refine lv_goto (tgt := 30) hx hb dX8_tell_23 (by decide) ?_
  obtain rfl := Option.some.inj h
  exact hend _ _ _ _ dX8_tell_30 hS

-- InnTurned.note(IIIII)I
def wd_X8_note (cI cB cZ : ClassId) (a_this : Nat) (a_house : Nat) (a_house_wets : Nat) (a_house_guests : Nat) (a_house_guests_cells : Nat) (a_house_sights : Nat) (a_house_remarks : Nat) (a_house_remarks_cells : Nat) (a_house_marks : Nat) (a_house_past : Nat) (a_spare : Nat) (a_image0 : Nat) (a_image1 : Nat) (a_script : Nat) (a_lineup : Nat) (a_wits : Nat)  (house_guests_rows : Int32) (house_remarks_cells : (Nat → Int32)) (house_remarks_rows : Int32) (house_host : Int32) (house_rooms : Int32) (house_night : Int32) (house_wheels : Int32) (house_turned : Int32) (kept0 : Int32) (kept1 : Int32) (above : Int32) (below_ : Int32) (bads : Int32) (nos : Int32) (fulls : Int32) : va_W := [(a_this, .inr (5, [.ref a_house, .ref a_spare, .ref a_image0, .ref a_image1, .ref a_script, .ref a_lineup, .ref a_wits, .int kept0, .int kept1, .int above, .int below_, .int bads, .int nos, .int fulls])), (a_house, .inr (0, [.ref a_house_wets, .ref a_house_guests, .ref a_house_sights, .ref a_house_remarks, .ref a_house_marks, .ref a_house_past, .int house_host, .int house_rooms, .int house_night, .int house_wheels, .int house_turned])), (a_house_guests, .inr (3, [.int 4, .int 7, .ref a_house_guests_cells, .int house_guests_rows])), (a_house_remarks, .inr (3, [.int 5, .int 6, .ref a_house_remarks_cells, .int house_remarks_rows])), (a_house_remarks_cells, .inl (cI, 30, .inl house_remarks_cells))]
abbrev rm_X8_note : Room := { frames := 3, cells := 0, slots := 0, locals := 72 }
set_option maxRecDepth 20000 in
theorem inX1_X8_note : ∀ w ∈ u_ws RX1 TX1 11, w ∈ wsX8_note := by decide +kernel
set_option maxRecDepth 20000 in
theorem inX8_X8_note : ∀ w ∈ u_ws RX8 TX8 14, w ∈ wsX8_note := by decide +kernel
def f_X8_note_b28  (house_guests_rows : Int32) (house_remarks_cells : (Nat → Int32)) (house_remarks_rows : Int32) (bads : Int32) (fulls : Int32) : Option (Int32 × (Nat → Int32) × Int32 × Int32 × Int32) := ((f_X8_bad bads).bind fun q1 => some (q1.1, house_remarks_cells, house_remarks_rows, q1.2, fulls))
set_option maxHeartbeats 4000000 in
set_option maxRecDepth 100000 in
theorem w_X8_note_b28 {p : Program} {l : Launch} {e : Env} {s : State} {m : MethodId} {args : Array Value} {below : List Frame} {meth : Method} {c : Code} {A : Nat → Prop} {Q : State → Prop} {D : va_G} {cI cB cZ : ClassId} {a_this a_house a_house_wets a_house_guests a_house_guests_cells a_house_sights a_house_remarks a_house_remarks_cells a_house_marks a_house_past a_spare a_image0 a_image1 a_script a_lineup a_wits : Nat} {house_guests_rows : Int32} {house_host : Int32} {house_rooms : Int32} {house_night : Int32} {house_wheels : Int32} {house_turned : Int32} {kept0 : Int32} {kept1 : Int32} {above : Int32} {below_ : Int32} {nos : Int32} (C0 : Cx p s m args c cX8_note 6 RX8 wsX8_note D (s_tys cI cB cZ) A) {rv : Int32 × (Nat → Int32) × Int32 × Int32 × Int32} (hend : ∀ (pc : Nat) (H : Heap) (locs : List Loc) (ls : Array Slot), decode cX8_note pc = .ok (.ireturn, 1) → sS D vwCl A s.heap (wd_X8_note cI cB cZ a_this a_house a_house_wets a_house_guests a_house_guests_cells a_house_sights a_house_remarks a_house_remarks_cells a_house_marks a_house_past a_spare a_image0 a_image1 a_script a_lineup a_wits house_guests_rows rv.2.1 rv.2.2.1 house_host house_rooms house_night house_wheels house_turned kept0 kept1 above below_ rv.2.2.2.1 nos rv.2.2.2.2) H locs → W p l e rm_X8_note s m args below meth c H locs 0 0 Q (F0 m pc ls [.int rv.1])) : ∀ (house_remarks_cells : (Nat → Int32)) (house_remarks_rows : Int32) (bads : Int32) (fulls : Int32) (H : Heap) (locs : List Loc) (ls : Array Slot), f_X8_note_b28 house_guests_rows house_remarks_cells house_remarks_rows bads fulls = some rv → sS D vwCl A s.heap (wd_X8_note cI cB cZ a_this a_house a_house_wets a_house_guests a_house_guests_cells a_house_sights a_house_remarks a_house_remarks_cells a_house_marks a_house_past a_spare a_image0 a_image1 a_script a_lineup a_wits house_guests_rows house_remarks_cells house_remarks_rows house_host house_rooms house_night house_wheels house_turned kept0 kept1 above below_ bads nos fulls) H locs → lv_has ls 6 [(0, .ref a_this)] → W p l e rm_X8_note s m args below meth c H locs 0 0 Q (F0 m 28 ls []) := by
  obtain ⟨hx, hb, hml, hown, hts, hK, hA⟩ := id C0
  have inX1 : ∀ w ∈ u_ws RX1 TX1 11, w ∈ wsX8_note := inX1_X8_note
  have inX8 : ∀ w ∈ u_ws RX8 TX8 14, w ∈ wsX8_note := inX8_X8_note
  intro house_remarks_cells house_remarks_rows bads fulls H locs ls h hS hl
  unfold f_X8_note_b28 at h
  refine lv_aload_n hx hb dX8_note_28 rfl (lv_at hl 0 rfl) ?_
  obtain ⟨q1, hq1, h⟩ := s_bind h
  refine r_calliV (r := q1.1) (As := []) (rest := []) (wc := (wd_X8_bad cI cB cZ a_this a_house a_spare a_image0 a_image1 a_script a_lineup a_wits kept0 kept1 above below_ bads nos fulls)) (w1 := (wd_X8_bad cI cB cZ a_this a_house a_spare a_image0 a_image1 a_script a_lineup a_wits kept0 kept1 above below_ q1.2 nos fulls)) (ws' := (wd_X8_note cI cB cZ a_this a_house a_house_wets a_house_guests a_house_guests_cells a_house_sights a_house_remarks a_house_remarks_cells a_house_marks a_house_past a_spare a_image0 a_image1 a_script a_lineup a_wits house_guests_rows house_remarks_cells house_remarks_rows house_host house_rooms house_night house_wheels house_turned kept0 kept1 above below_ q1.2 nos fulls)) hx hb hml hown hts hK hA hl hS (c_X8_bad l D cI cB cZ a_this a_house a_spare a_image0 a_image1 a_script a_lineup a_wits kept0 kept1 above below_ bads nos fulls _ _ hq1) (cwV 0 hts gX8_note_X8_bad rfl rfl rfl (by decide +kernel) ⟨Nat.le_of_ble_eq_true rfl, Nat.le_of_ble_eq_true rfl⟩) 0 rfl rfl [0] rfl rfl rfl [.inr 0, .inl 1, .inl 2, .inl 3, .inl 4] rfl rfl rfl rfl (Nat.le_of_ble_eq_true rfl) dX8_note_29 (fun H locs hS => ?_)
  obtain rfl := Option.some.inj h
  exact hend _ _ _ _ dX8_note_32 hS
def f_X8_note_b55  (house_guests_rows : Int32) (house_remarks_cells : (Nat → Int32)) (house_remarks_rows : Int32) (bads : Int32) (fulls : Int32) : Option (Int32 × (Nat → Int32) × Int32 × Int32 × Int32) := ((f_X8_bad bads).bind fun q2 => some (q2.1, house_remarks_cells, house_remarks_rows, q2.2, fulls))
set_option maxHeartbeats 4000000 in
set_option maxRecDepth 100000 in
theorem w_X8_note_b55 {p : Program} {l : Launch} {e : Env} {s : State} {m : MethodId} {args : Array Value} {below : List Frame} {meth : Method} {c : Code} {A : Nat → Prop} {Q : State → Prop} {D : va_G} {cI cB cZ : ClassId} {a_this a_house a_house_wets a_house_guests a_house_guests_cells a_house_sights a_house_remarks a_house_remarks_cells a_house_marks a_house_past a_spare a_image0 a_image1 a_script a_lineup a_wits : Nat} {house_guests_rows : Int32} {house_host : Int32} {house_rooms : Int32} {house_night : Int32} {house_wheels : Int32} {house_turned : Int32} {kept0 : Int32} {kept1 : Int32} {above : Int32} {below_ : Int32} {nos : Int32} (C0 : Cx p s m args c cX8_note 6 RX8 wsX8_note D (s_tys cI cB cZ) A) {rv : Int32 × (Nat → Int32) × Int32 × Int32 × Int32} (hend : ∀ (pc : Nat) (H : Heap) (locs : List Loc) (ls : Array Slot), decode cX8_note pc = .ok (.ireturn, 1) → sS D vwCl A s.heap (wd_X8_note cI cB cZ a_this a_house a_house_wets a_house_guests a_house_guests_cells a_house_sights a_house_remarks a_house_remarks_cells a_house_marks a_house_past a_spare a_image0 a_image1 a_script a_lineup a_wits house_guests_rows rv.2.1 rv.2.2.1 house_host house_rooms house_night house_wheels house_turned kept0 kept1 above below_ rv.2.2.2.1 nos rv.2.2.2.2) H locs → W p l e rm_X8_note s m args below meth c H locs 0 0 Q (F0 m pc ls [.int rv.1])) : ∀ (house_remarks_cells : (Nat → Int32)) (house_remarks_rows : Int32) (bads : Int32) (fulls : Int32) (H : Heap) (locs : List Loc) (ls : Array Slot), f_X8_note_b55 house_guests_rows house_remarks_cells house_remarks_rows bads fulls = some rv → sS D vwCl A s.heap (wd_X8_note cI cB cZ a_this a_house a_house_wets a_house_guests a_house_guests_cells a_house_sights a_house_remarks a_house_remarks_cells a_house_marks a_house_past a_spare a_image0 a_image1 a_script a_lineup a_wits house_guests_rows house_remarks_cells house_remarks_rows house_host house_rooms house_night house_wheels house_turned kept0 kept1 above below_ bads nos fulls) H locs → lv_has ls 6 [(0, .ref a_this)] → W p l e rm_X8_note s m args below meth c H locs 0 0 Q (F0 m 55 ls []) := by
  obtain ⟨hx, hb, hml, hown, hts, hK, hA⟩ := id C0
  have inX1 : ∀ w ∈ u_ws RX1 TX1 11, w ∈ wsX8_note := inX1_X8_note
  have inX8 : ∀ w ∈ u_ws RX8 TX8 14, w ∈ wsX8_note := inX8_X8_note
  intro house_remarks_cells house_remarks_rows bads fulls H locs ls h hS hl
  unfold f_X8_note_b55 at h
  refine lv_aload_n hx hb dX8_note_55 rfl (lv_at hl 0 rfl) ?_
  obtain ⟨q2, hq2, h⟩ := s_bind h
  refine r_calliV (r := q2.1) (As := []) (rest := []) (wc := (wd_X8_bad cI cB cZ a_this a_house a_spare a_image0 a_image1 a_script a_lineup a_wits kept0 kept1 above below_ bads nos fulls)) (w1 := (wd_X8_bad cI cB cZ a_this a_house a_spare a_image0 a_image1 a_script a_lineup a_wits kept0 kept1 above below_ q2.2 nos fulls)) (ws' := (wd_X8_note cI cB cZ a_this a_house a_house_wets a_house_guests a_house_guests_cells a_house_sights a_house_remarks a_house_remarks_cells a_house_marks a_house_past a_spare a_image0 a_image1 a_script a_lineup a_wits house_guests_rows house_remarks_cells house_remarks_rows house_host house_rooms house_night house_wheels house_turned kept0 kept1 above below_ q2.2 nos fulls)) hx hb hml hown hts hK hA hl hS (c_X8_bad l D cI cB cZ a_this a_house a_spare a_image0 a_image1 a_script a_lineup a_wits kept0 kept1 above below_ bads nos fulls _ _ hq2) (cwV 0 hts gX8_note_X8_bad rfl rfl rfl (by decide +kernel) ⟨Nat.le_of_ble_eq_true rfl, Nat.le_of_ble_eq_true rfl⟩) 0 rfl rfl [0] rfl rfl rfl [.inr 0, .inl 1, .inl 2, .inl 3, .inl 4] rfl rfl rfl rfl (Nat.le_of_ble_eq_true rfl) dX8_note_56 (fun H locs hS => ?_)
  obtain rfl := Option.some.inj h
  exact hend _ _ _ _ dX8_note_59 hS
def f_X8_note  (house_guests_rows : Int32) (house_remarks_cells : (Nat → Int32)) (house_remarks_rows : Int32) (bads : Int32) (fulls : Int32) (p1 : Int32) (p2 : Int32) (p3 : Int32) (p4 : Int32) (p5 : Int32) : Option (Int32 × (Nat → Int32) × Int32 × Int32 × Int32) := ((f_X1_isThere house_guests_rows p1).bind fun q3 => (if q3 = 0 then f_X8_note_b28  house_guests_rows house_remarks_cells house_remarks_rows bads fulls else ((f_X8_isWord p2).bind fun q5 => (if q5 = 0 then f_X8_note_b28  house_guests_rows house_remarks_cells house_remarks_rows bads fulls else ((f_X8_within p3 (0 : Int32) (9 : Int32)).bind fun q7 => (if q7 = 0 then f_X8_note_b28  house_guests_rows house_remarks_cells house_remarks_rows bads fulls else ((f_X8_within p4 (0 : Int32) (99 : Int32)).bind fun q9 => (if q9 = 0 then f_X8_note_b55  house_guests_rows house_remarks_cells house_remarks_rows bads fulls else ((f_X8_within p5 (0 : Int32) (60 : Int32)).bind fun q11 => (if q11 = 0 then f_X8_note_b55  house_guests_rows house_remarks_cells house_remarks_rows bads fulls else ((f_X8_written 30 (5 : Int32) (6 : Int32) fulls house_remarks_cells house_remarks_rows p1 p2 p3 p4 p5).bind fun q13 => some (q13.1, q13.2.2.1, q13.2.2.2, bads, q13.2.1))))))))))))
set_option maxHeartbeats 4000000 in
set_option maxRecDepth 100000 in
theorem c_X8_note (l : Launch) (D : va_G) (cI cB cZ : ClassId) (a_this : Nat) (a_house : Nat) (a_house_wets : Nat) (a_house_guests : Nat) (a_house_guests_cells : Nat) (a_house_sights : Nat) (a_house_remarks : Nat) (a_house_remarks_cells : Nat) (a_house_marks : Nat) (a_house_past : Nat) (a_spare : Nat) (a_image0 : Nat) (a_image1 : Nat) (a_script : Nat) (a_lineup : Nat) (a_wits : Nat) (house_guests_rows : Int32) (house_remarks_cells : (Nat → Int32)) (house_remarks_rows : Int32) (house_host : Int32) (house_rooms : Int32) (house_night : Int32) (house_wheels : Int32) (house_turned : Int32) (kept0 : Int32) (kept1 : Int32) (above : Int32) (below_ : Int32) (bads : Int32) (nos : Int32) (fulls : Int32) (p1 : Int32) (p2 : Int32) (p3 : Int32) (p4 : Int32) (p5 : Int32) (rv : Int32 × (Nat → Int32) × Int32 × Int32 × Int32) (sz : Nat) (hf : f_X8_note house_guests_rows house_remarks_cells house_remarks_rows bads fulls p1 p2 p3 p4 p5 = some rv) : Met l yX8_note wsX8_note rm_X8_note (sPc D vwCl (s_tys cI cB cZ) [.ref a_this, .int p1, .int p2, .int p3, .int p4, .int p5] (wd_X8_note cI cB cZ a_this a_house a_house_wets a_house_guests a_house_guests_cells a_house_sights a_house_remarks a_house_remarks_cells a_house_marks a_house_past a_spare a_image0 a_image1 a_script a_lineup a_wits house_guests_rows house_remarks_cells house_remarks_rows house_host house_rooms house_night house_wheels house_turned kept0 kept1 above below_ bads nos fulls) sz) (sQi D vwCl (wd_X8_note cI cB cZ a_this a_house a_house_wets a_house_guests a_house_guests_cells a_house_sights a_house_remarks a_house_remarks_cells a_house_marks a_house_past a_spare a_image0 a_image1 a_script a_lineup a_wits house_guests_rows house_remarks_cells house_remarks_rows house_host house_rooms house_night house_wheels house_turned kept0 kept1 above below_ bads nos fulls) (wd_X8_note cI cB cZ a_this a_house a_house_wets a_house_guests a_house_guests_cells a_house_sights a_house_remarks a_house_remarks_cells a_house_marks a_house_past a_spare a_image0 a_image1 a_script a_lineup a_wits house_guests_rows rv.2.1 rv.2.2.1 house_host house_rooms house_night house_wheels house_turned kept0 kept1 above below_ rv.2.2.2.1 nos rv.2.2.2.2) sz rv.1) 0 0 (va_A (wd_X8_note cI cB cZ a_this a_house a_house_wets a_house_guests a_house_guests_cells a_house_sights a_house_remarks a_house_remarks_cells a_house_marks a_house_past a_spare a_image0 a_image1 a_script a_lineup a_wits house_guests_rows house_remarks_cells house_remarks_rows house_host house_rooms house_night house_wheels house_turned kept0 kept1 above below_ bads nos fulls) sz) := by
  refine s_enter_n (cc := cX8_note) (nL := 6) (r := rv.1) (by decide) rfl (Nat.le_of_ble_eq_true rfl) ?_
  intro p e s m args below meth c A Q C0 hend ls hl hS
  have h := hf
  clear hf
  replace hl : lv_has ls 6 [(0, .ref a_this), (1, .int p1), (2, .int p2), (3, .int p3), (4, .int p4), (5, .int p5)] := hl
  unfold f_X8_note at h
  obtain ⟨hx, hb, hml, hown, hts, hK, hA⟩ := id C0
  have inX1 : ∀ w ∈ u_ws RX1 TX1 11, w ∈ wsX8_note := inX1_X8_note
  have inX8 : ∀ w ∈ u_ws RX8 TX8 14, w ∈ wsX8_note := inX8_X8_note
  refine lv_aload_n hx hb dX8_note_0 rfl (lv_at hl 0 rfl) ?_
  refine s_get (C := RX8) (T := TX8) (N := 14) hx hb hts inX8 hown hK hS 0 rfl rfl 0 (by decide) (hts (.fieldLink RX8 10 "InnTurned" "house" "LInnTurned$House;") (List.mem_of_getElem? (i := 1) rfl)) rfl rfl dX8_note_1 ?_
  refine lv_iload_n hx hb dX8_note_4 rfl (lv_at hl 1 rfl) ?_
  obtain ⟨q3, hq3, h⟩ := s_bind h
  refine u_calliV (r := q3) (As := [.int p1]) (rest := []) (wc := (wd_X1_isThere cI cB cZ a_house a_house_wets a_house_guests a_house_guests_cells a_house_sights a_house_remarks a_house_marks a_house_past house_guests_rows house_host house_rooms house_night house_wheels house_turned)) hx hb hml hown hts hK hA hl hS (c_X1_isThere l D cI cB cZ a_house a_house_wets a_house_guests a_house_guests_cells a_house_sights a_house_remarks a_house_marks a_house_past house_guests_rows house_host house_rooms house_night house_wheels house_turned p1 _ _ hq3) (cwV 1 hts gX8_note_X1_isThere rfl rfl rfl (by decide +kernel) ⟨Nat.le_of_ble_eq_true rfl, Nat.le_of_ble_eq_true rfl⟩) 1 rfl rfl [1, 2] rfl rfl rfl rfl (Nat.le_of_ble_eq_true rfl) dX8_note_5 (fun H locs hS => ?_)
  refine lv_if_eq (tgt := 28) hx hb dX8_note_8 (by decide) (fun c4 => ?_) (fun c4 => ?_)
  · replace h := s_yes c4 h
    exact w_X8_note_b28 C0 hend  house_remarks_cells house_remarks_rows bads fulls _ _ _ h hS (lv_sub hl [0] rfl)
  replace h := s_no c4 h
  refine lv_iload_n hx hb dX8_note_11 rfl (lv_at hl 2 rfl) ?_
  obtain ⟨q5, hq5, h⟩ := s_bind h
  refine u_calliS (r := q5) (As := [.int p2]) (rest := []) (wc := ([] : va_W)) hx hb hml hown hts hK hA hl hS (c_X8_isWord l D cI cB cZ p2 _ _ hq5) (va_cwS 1 hts gX8_note_X8_isWord rfl rfl rfl (by decide +kernel) ⟨Nat.le_of_ble_eq_true rfl, Nat.le_of_ble_eq_true rfl⟩) [] rfl rfl rfl rfl (Nat.le_of_ble_eq_true rfl) dX8_note_12 (fun H locs hS => ?_)
  refine lv_if_eq (tgt := 28) hx hb dX8_note_15 (by decide) (fun c6 => ?_) (fun c6 => ?_)
  · replace h := s_yes c6 h
    exact w_X8_note_b28 C0 hend  house_remarks_cells house_remarks_rows bads fulls _ _ _ h hS (lv_sub hl [0] rfl)
  replace h := s_no c6 h
  refine lv_iload_n hx hb dX8_note_18 rfl (lv_at hl 3 rfl) ?_
  refine lv_iconst (v := (0 : Int32)) hx hb dX8_note_19 (by decide) ?_
  refine lv_bipush (v := (9 : Int32)) hx hb dX8_note_20 (by decide) ?_
  obtain ⟨q7, hq7, h⟩ := s_bind h
  refine u_calliS (r := q7) (As := [.int p3, .int (0 : Int32), .int (9 : Int32)]) (rest := []) (wc := ([] : va_W)) hx hb hml hown hts hK hA hl hS (c_X8_within l D cI cB cZ p3 (0 : Int32) (9 : Int32) _ _ hq7) (va_cwS 3 hts gX8_note_X8_within rfl rfl rfl (by decide +kernel) ⟨Nat.le_of_ble_eq_true rfl, Nat.le_of_ble_eq_true rfl⟩) [] rfl rfl rfl rfl (Nat.le_of_ble_eq_true rfl) dX8_note_22 (fun H locs hS => ?_)
  refine lv_if_ne (tgt := 33) hx hb dX8_note_25 (by decide) (fun c8 => ?_) (fun c8 => ?_)
  · replace h := s_no c8 h
    refine lv_iload hx hb dX8_note_33 (lv_at hl 4 rfl) ?_
    refine lv_iconst (v := (0 : Int32)) hx hb dX8_note_35 (by decide) ?_
    refine lv_bipush (v := (99 : Int32)) hx hb dX8_note_36 (by decide) ?_
    obtain ⟨q9, hq9, h⟩ := s_bind h
    refine u_calliS (r := q9) (As := [.int p4, .int (0 : Int32), .int (99 : Int32)]) (rest := []) (wc := ([] : va_W)) hx hb hml hown hts hK hA hl hS (c_X8_within l D cI cB cZ p4 (0 : Int32) (99 : Int32) _ _ hq9) (va_cwS 3 hts gX8_note_X8_within rfl rfl rfl (by decide +kernel) ⟨Nat.le_of_ble_eq_true rfl, Nat.le_of_ble_eq_true rfl⟩) [] rfl rfl rfl rfl (Nat.le_of_ble_eq_true rfl) dX8_note_38 (fun H locs hS => ?_)
    refine lv_if_eq (tgt := 55) hx hb dX8_note_41 (by decide) (fun c10 => ?_) (fun c10 => ?_)
    · replace h := s_yes c10 h
      exact w_X8_note_b55 C0 hend  house_remarks_cells house_remarks_rows bads fulls _ _ _ h hS (lv_sub hl [0] rfl)
    replace h := s_no c10 h
    refine lv_iload hx hb dX8_note_44 (lv_at hl 5 rfl) ?_
    refine lv_iconst (v := (0 : Int32)) hx hb dX8_note_46 (by decide) ?_
    refine lv_bipush (v := (60 : Int32)) hx hb dX8_note_47 (by decide) ?_
    obtain ⟨q11, hq11, h⟩ := s_bind h
    refine u_calliS (r := q11) (As := [.int p5, .int (0 : Int32), .int (60 : Int32)]) (rest := []) (wc := ([] : va_W)) hx hb hml hown hts hK hA hl hS (c_X8_within l D cI cB cZ p5 (0 : Int32) (60 : Int32) _ _ hq11) (va_cwS 3 hts gX8_note_X8_within rfl rfl rfl (by decide +kernel) ⟨Nat.le_of_ble_eq_true rfl, Nat.le_of_ble_eq_true rfl⟩) [] rfl rfl rfl rfl (Nat.le_of_ble_eq_true rfl) dX8_note_49 (fun H locs hS => ?_)
    refine lv_if_ne (tgt := 60) hx hb dX8_note_52 (by decide) (fun c12 => ?_) (fun c12 => ?_)
    · replace h := s_no c12 h
      refine lv_aload_n hx hb dX8_note_60 rfl (lv_at hl 0 rfl) ?_
      refine lv_aload_n hx hb dX8_note_61 rfl (lv_at hl 0 rfl) ?_
      refine s_get (C := RX8) (T := TX8) (N := 14) hx hb hts inX8 hown hK hS 0 rfl rfl 0 (by decide) (hts (.fieldLink RX8 10 "InnTurned" "house" "LInnTurned$House;") (List.mem_of_getElem? (i := 1) rfl)) rfl rfl dX8_note_62 ?_
      refine s_getN (C := RX1) (T := TX1) (N := 11) hx hb hts inX1 hown hK hS 1 rfl rfl 3 (by decide) 13 rfl rfl rfl dX8_note_65 ?_
      refine lv_iload_n hx hb dX8_note_68 rfl (lv_at hl 1 rfl) ?_
      refine lv_iload_n hx hb dX8_note_69 rfl (lv_at hl 2 rfl) ?_
      refine lv_iload_n hx hb dX8_note_70 rfl (lv_at hl 3 rfl) ?_
      refine lv_iload hx hb dX8_note_71 (lv_at hl 4 rfl) ?_
      refine lv_iload hx hb dX8_note_73 (lv_at hl 5 rfl) ?_
      obtain ⟨q13, hq13, h⟩ := s_bind h
      refine r_calliV (r := q13.1) (As := [.ref a_house_remarks, .int p1, .int p2, .int p3, .int p4, .int p5]) (rest := []) (wc := (wd_X8_written cI cB cZ a_this a_house a_spare a_image0 a_image1 a_script a_lineup a_wits a_house_remarks a_house_remarks_cells 30 kept0 kept1 above below_ bads nos fulls (5 : Int32) (6 : Int32) house_remarks_cells house_remarks_rows)) (w1 := (wd_X8_written cI cB cZ a_this a_house a_spare a_image0 a_image1 a_script a_lineup a_wits a_house_remarks a_house_remarks_cells 30 kept0 kept1 above below_ bads nos q13.2.1 (5 : Int32) (6 : Int32) q13.2.2.1 q13.2.2.2)) (ws' := (wd_X8_note cI cB cZ a_this a_house a_house_wets a_house_guests a_house_guests_cells a_house_sights a_house_remarks a_house_remarks_cells a_house_marks a_house_past a_spare a_image0 a_image1 a_script a_lineup a_wits house_guests_rows q13.2.2.1 q13.2.2.2 house_host house_rooms house_night house_wheels house_turned kept0 kept1 above below_ bads nos q13.2.1)) hx hb hml hown hts hK hA hl hS (c_X8_written l D cI cB cZ a_this a_house a_spare a_image0 a_image1 a_script a_lineup a_wits a_house_remarks a_house_remarks_cells 30 kept0 kept1 above below_ bads nos fulls (5 : Int32) (6 : Int32) house_remarks_cells house_remarks_rows p1 p2 p3 p4 p5 _ _ hq13) (cwV 6 hts gX8_note_X8_written rfl rfl rfl (by decide +kernel) ⟨Nat.le_of_ble_eq_true rfl, Nat.le_of_ble_eq_true rfl⟩) 0 rfl rfl [0, 3, 4] rfl rfl rfl [.inr 0, .inl 1, .inl 2, .inr 1, .inr 2] rfl rfl rfl rfl (Nat.le_of_ble_eq_true rfl) dX8_note_75 (fun H locs hS => ?_)
      obtain rfl := Option.some.inj h
      exact hend _ _ _ _ dX8_note_78 hS
    replace h := s_yes c12 h
    exact w_X8_note_b55 C0 hend  house_remarks_cells house_remarks_rows bads fulls _ _ _ h hS (lv_sub hl [0] rfl)
  replace h := s_yes c8 h
  exact w_X8_note_b28 C0 hend  house_remarks_cells house_remarks_rows bads fulls _ _ _ h hS (lv_sub hl [0] rfl)

