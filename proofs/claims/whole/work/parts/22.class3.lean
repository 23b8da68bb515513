-- InnTurned$Lineup.arrange(LInnTurned$House;)V
def wd_X3_arrange (cI cB cZ : ClassId) (a_this : Nat) (a_best : Nat) (a_likely : Nat) (a_places : Nat) (a_p1 : Nat) (a_p1_wets : Nat) (a_p1_guests : Nat) (a_p1_guests_cells : Nat) (a_p1_sights : Nat) (a_p1_remarks : Nat) (a_p1_marks : Nat) (a_p1_past : Nat)  (best : (Nat → Int32)) (likely : (Nat → Int32)) (places : (Nat → Int32)) (all : Int32) (length : Int32) (let_ : Int32) (p1_wets : (Nat → Int32)) (p1_guests_cells : (Nat → Int32)) (p1_guests_rows : Int32) (p1_host : Int32) (p1_rooms : Int32) (p1_night : Int32) (p1_wheels : Int32) (p1_turned : Int32) : va_W := [(a_this, .inr (1, [.ref a_best, .ref a_likely, .ref a_places, .int all, .int length, .int let_])), (a_best, .inl (cI, 128, .inl best)), (a_likely, .inl (cI, 7, .inl likely)), (a_places, .inl (cI, 7, .inl places)), (a_p1, .inr (0, [.ref a_p1_wets, .ref a_p1_guests, .ref a_p1_sights, .ref a_p1_remarks, .ref a_p1_marks, .ref a_p1_past, .int p1_host, .int p1_rooms, .int p1_night, .int p1_wheels, .int p1_turned])), (a_p1_wets, .inl (cI, 6, .inl p1_wets)), (a_p1_guests, .inr (3, [.int 4, .int 7, .ref a_p1_guests_cells, .int p1_guests_rows])), (a_p1_guests_cells, .inl (cI, 28, .inl p1_guests_cells))]
abbrev rm_X3_arrange : Room := { frames := 4, cells := 0, slots := 0, locals := 96 }
set_option maxRecDepth 20000 in
theorem inX1_X3_arrange : ∀ w ∈ u_ws RX1 TX1 11, w ∈ wsX3_arrange := by decide +kernel
set_option maxRecDepth 20000 in
theorem inX3_X3_arrange : ∀ w ∈ u_ws RX3 TX3 6, w ∈ wsX3_arrange := by decide +kernel
set_option maxRecDepth 20000 in
theorem inX5_X3_arrange : ∀ w ∈ u_ws RX5 TX5 4, w ∈ wsX3_arrange := by decide +kernel
def f_X3_arrange_b91 (k_b64 : (Nat → Int32) → (Nat → Int32) → (Nat → Int32) → Int32 → Int32 → Int32 → Int32 → Option ((Nat → Int32) × (Nat → Int32) × (Nat → Int32) × Int32 × Int32 × Int32))  (p1_wets : (Nat → Int32)) (p1_guests_cells : (Nat → Int32)) (p1_guests_rows : Int32) (p1_host : Int32) (p1_rooms : Int32) (p1_night : Int32) (p1_wheels : Int32) (best : (Nat → Int32)) (likely : (Nat → Int32)) (places : (Nat → Int32)) (all : Int32) (length : Int32) (let_ : Int32) (l2 : Int32) : Option ((Nat → Int32) × (Nat → Int32) × (Nat → Int32) × Int32 × Int32 × Int32) := k_b64 best likely places all length let_ (l2 + (-1 : Int32))
set_option maxHeartbeats 4000000 in
set_option maxRecDepth 100000 in
theorem w_X3_arrange_b91 {p : Program} {l : Launch} {e : Env} {s : State} {m : MethodId} {args : Array Value} {below : List Frame} {meth : Method} {c : Code} {A : Nat → Prop} {Q : State → Prop} {D : va_G} {cI cB cZ : ClassId} {a_this a_best a_likely a_places a_p1 a_p1_wets a_p1_guests a_p1_guests_cells a_p1_sights a_p1_remarks a_p1_marks a_p1_past : Nat} {p1_wets : (Nat → Int32)} {p1_guests_cells : (Nat → Int32)} {p1_guests_rows : Int32} {p1_host : Int32} {p1_rooms : Int32} {p1_night : Int32} {p1_wheels : Int32} {p1_turned : Int32} (C0 : Cx p s m args c cX3_arrange 3 RX3 wsX3_arrange D (s_tys cI cB cZ) A) {rv : (Nat → Int32) × (Nat → Int32) × (Nat → Int32) × Int32 × Int32 × Int32} (hend : ∀ (pc : Nat) (H : Heap) (locs : List Loc) (ls : Array Slot), decode cX3_arrange pc = .ok (.return_, 1) → sS D vwCl A s.heap (wd_X3_arrange cI cB cZ a_this a_best a_likely a_places a_p1 a_p1_wets a_p1_guests a_p1_guests_cells a_p1_sights a_p1_remarks a_p1_marks a_p1_past rv.1 rv.2.1 rv.2.2.1 rv.2.2.2.1 rv.2.2.2.2.1 rv.2.2.2.2.2 p1_wets p1_guests_cells p1_guests_rows p1_host p1_rooms p1_night p1_wheels p1_turned) H locs → W p l e rm_X3_arrange s m args below meth c H locs 0 0 Q (F0 m pc ls [])) (k_b64 : (Nat → Int32) → (Nat → Int32) → (Nat → Int32) → Int32 → Int32 → Int32 → Int32 → Option ((Nat → Int32) × (Nat → Int32) × (Nat → Int32) × Int32 × Int32 × Int32)) (hk_b64 : ∀ (best : (Nat → Int32)) (likely : (Nat → Int32)) (places : (Nat → Int32)) (all : Int32) (length : Int32) (let_ : Int32) (l2 : Int32) (H : Heap) (locs : List Loc) (ls : Array Slot), k_b64 best likely places all length let_ l2 = some rv → sS D vwCl A s.heap (wd_X3_arrange cI cB cZ a_this a_best a_likely a_places a_p1 a_p1_wets a_p1_guests a_p1_guests_cells a_p1_sights a_p1_remarks a_p1_marks a_p1_past best likely places all length let_ p1_wets p1_guests_cells p1_guests_rows p1_host p1_rooms p1_night p1_wheels p1_turned) H locs → lv_has ls 3 [(0, .ref a_this), (1, .ref a_p1), (2, .int l2)] → W p l e rm_X3_arrange s m args below meth c H locs 0 0 Q (F0 m 64 ls [])) : ∀ (best : (Nat → Int32)) (likely : (Nat → Int32)) (places : (Nat → Int32)) (all : Int32) (length : Int32) (let_ : Int32) (l2 : Int32) (H : Heap) (locs : List Loc) (ls : Array Slot), f_X3_arrange_b91 k_b64 p1_wets p1_guests_cells p1_guests_rows p1_host p1_rooms p1_night p1_wheels best likely places all length let_ l2 = some rv → sS D vwCl A s.heap (wd_X3_arrange cI cB cZ a_this a_best a_likely a_places a_p1 a_p1_wets a_p1_guests a_p1_guests_cells a_p1_sights a_p1_remarks a_p1_marks a_p1_past best likely places all length let_ p1_wets p1_guests_cells p1_guests_rows p1_host p1_rooms p1_night p1_wheels p1_turned) H locs → lv_has ls 3 [(0, .ref a_this), (1, .ref a_p1), (2, .int l2)] → W p l e rm_X3_arrange s m args below meth c H locs 0 0 Q (F0 m 91 ls []) := by
  obtain ⟨hx, hb, hml, hown, hts, hK, hA⟩ := id C0
  have inX1 : ∀ w ∈ u_ws RX1 TX1 11, w ∈ wsX3_arrange := inX1_X3_arrange
  have inX3 : ∀ w ∈ u_ws RX3 TX3 6, w ∈ wsX3_arrange := inX3_X3_arrange
  have inX5 : ∀ w ∈ u_ws RX5 TX5 4, w ∈ wsX3_arrange := inX5_X3_arrange
  intro best likely places all length let_ l2 H locs ls h hS hl
  unfold f_X3_arrange_b91 at h
  refine lv_iinc (v := (l2 + (-1 : Int32))) (lv' := [(2, .int (l2 + (-1 : Int32))), (0, .ref a_this), (1, .ref a_p1)]) hx hb dX3_arrange_91 hl (k := 2) rfl rfl (by decide) rfl (fun ls hl => ?_)
  refine lv_goto (tgt := 64) hx hb dX3_arrange_94 (by decide) ?_
  exact hk_b64 best likely places all length let_ (l2 + (-1 : Int32)) _ _ _ h hS (lv_sub hl [1, 2, 0] rfl)
def f_X3_arrange_b64  (p1_wets : (Nat → Int32)) (p1_guests_cells : (Nat → Int32)) (p1_guests_rows : Int32) (p1_host : Int32) (p1_rooms : Int32) (p1_night : Int32) (p1_wheels : Int32) : Nat → (Nat → Int32) → (Nat → Int32) → (Nat → Int32) → Int32 → Int32 → Int32 → Int32 → Option ((Nat → Int32) × (Nat → Int32) × (Nat → Int32) × Int32 × Int32 × Int32)
  | 0, _, _, _, _, _, _, _ => none
  | fu + 1, best, likely, places, all, length, let_, l2 => (if l2 < 0 then ((f_X1_howManyIn p1_guests_cells p1_guests_rows).bind fun q2 => ((f_X3_choose best likely all (if (best (Int32.toNatClampNeg (0 : Int32))) < (p1_rooms - q2) then (best (Int32.toNatClampNeg (0 : Int32))) else (p1_rooms - q2)) p1_wets p1_host p1_night p1_wheels places length).bind fun q3 => some (best, likely, q3.1, all, q3.2, (if (best (Int32.toNatClampNeg (0 : Int32))) < (p1_rooms - q2) then (best (Int32.toNatClampNeg (0 : Int32))) else (p1_rooms - q2))))) else (if (l2 &&& (all ^^^ (-1 : Int32))) = 0 then ((f_X3_mostBehind best likely all p1_wets p1_host p1_night p1_wheels l2).bind fun q5 => (if ¬ (l2 < 0 ∨ 128 ≤ (Int32.toNatClampNeg l2)) then f_X3_arrange_b91 (f_X3_arrange_b64 p1_wets p1_guests_cells p1_guests_rows p1_host p1_rooms p1_night p1_wheels fu) p1_wets p1_guests_cells p1_guests_rows p1_host p1_rooms p1_night p1_wheels (upd best (Int32.toNatClampNeg l2) q5) likely places all length let_ l2 else none)) else f_X3_arrange_b91 (f_X3_arrange_b64 p1_wets p1_guests_cells p1_guests_rows p1_host p1_rooms p1_night p1_wheels fu) p1_wets p1_guests_cells p1_guests_rows p1_host p1_rooms p1_night p1_wheels best likely places all length let_ l2))
set_option maxHeartbeats 4000000 in
set_option maxRecDepth 100000 in
theorem w_X3_arrange_b64 {p : Program} {l : Launch} {e : Env} {s : State} {m : MethodId} {args : Array Value} {below : List Frame} {meth : Method} {c : Code} {A : Nat → Prop} {Q : State → Prop} {D : va_G} {cI cB cZ : ClassId} {a_this a_best a_likely a_places a_p1 a_p1_wets a_p1_guests a_p1_guests_cells a_p1_sights a_p1_remarks a_p1_marks a_p1_past : Nat} {p1_wets : (Nat → Int32)} {p1_guests_cells : (Nat → Int32)} {p1_guests_rows : Int32} {p1_host : Int32} {p1_rooms : Int32} {p1_night : Int32} {p1_wheels : Int32} {p1_turned : Int32} (C0 : Cx p s m args c cX3_arrange 3 RX3 wsX3_arrange D (s_tys cI cB cZ) A) {rv : (Nat → Int32) × (Nat → Int32) × (Nat → Int32) × Int32 × Int32 × Int32} (hend : ∀ (pc : Nat) (H : Heap) (locs : List Loc) (ls : Array Slot), decode cX3_arrange pc = .ok (.return_, 1) → sS D vwCl A s.heap (wd_X3_arrange cI cB cZ a_this a_best a_likely a_places a_p1 a_p1_wets a_p1_guests a_p1_guests_cells a_p1_sights a_p1_remarks a_p1_marks a_p1_past rv.1 rv.2.1 rv.2.2.1 rv.2.2.2.1 rv.2.2.2.2.1 rv.2.2.2.2.2 p1_wets p1_guests_cells p1_guests_rows p1_host p1_rooms p1_night p1_wheels p1_turned) H locs → W p l e rm_X3_arrange s m args below meth c H locs 0 0 Q (F0 m pc ls [])) : ∀ (fu : Nat) (best : (Nat → Int32)) (likely : (Nat → Int32)) (places : (Nat → Int32)) (all : Int32) (length : Int32) (let_ : Int32) (l2 : Int32) (H : Heap) (locs : List Loc) (ls : Array Slot), f_X3_arrange_b64 p1_wets p1_guests_cells p1_guests_rows p1_host p1_rooms p1_night p1_wheels fu best likely places all length let_ l2 = some rv → sS D vwCl A s.heap (wd_X3_arrange cI cB cZ a_this a_best a_likely a_places a_p1 a_p1_wets a_p1_guests a_p1_guests_cells a_p1_sights a_p1_remarks a_p1_marks a_p1_past best likely places all length let_ p1_wets p1_guests_cells p1_guests_rows p1_host p1_rooms p1_night p1_wheels p1_turned) H locs → lv_has ls 3 [(0, .ref a_this), (1, .ref a_p1), (2, .int l2)] → W p l e rm_X3_arrange s m args below meth c H locs 0 0 Q (F0 m 64 ls []) := by
  obtain ⟨hx, hb, hml, hown, hts, hK, hA⟩ := id C0
  have inX1 : ∀ w ∈ u_ws RX1 TX1 11, w ∈ wsX3_arrange := inX1_X3_arrange
  have inX3 : ∀ w ∈ u_ws RX3 TX3 6, w ∈ wsX3_arrange := inX3_X3_arrange
  have inX5 : ∀ w ∈ u_ws RX5 TX5 4, w ∈ wsX3_arrange := inX5_X3_arrange
  intro fu
  induction fu with
  | zero => intro best likely places all length let_ l2 H locs ls h; cases h
  | succ fu ih =>
    intro best likely places all length let_ l2 H locs ls h hS hl
    rw [f_X3_arrange_b64] at h
    refine lv_iload_n hx hb dX3_arrange_64 rfl (lv_at hl 2 rfl) ?_
    refine lv_if_lt (tgt := 97) hx hb dX3_arrange_65 (by decide) (fun c1 => ?_) (fun c1 => ?_)
    · replace h := s_yes c1 h
      refine lv_aload_n hx hb dX3_arrange_97 rfl (lv_at hl 0 rfl) ?_
      refine lv_aload_n hx hb dX3_arrange_98 rfl (lv_at hl 1 rfl) ?_
      refine s_getN (C := RX1) (T := TX1) (N := 11) hx hb hts inX1 hown hK hS 4 rfl rfl 7 (by decide) 18 rfl rfl rfl dX3_arrange_99 ?_
      refine lv_aload_n hx hb dX3_arrange_102 rfl (lv_at hl 1 rfl) ?_
      obtain ⟨q2, hq2, h⟩ := s_bind h
      refine u_calliV (r := q2) (As := []) (rest := [.int p1_rooms, .ref a_this]) (wc := (wd_X1_howManyIn cI cB cZ a_p1 a_p1_wets a_p1_guests a_p1_guests_cells a_p1_sights a_p1_remarks a_p1_marks a_p1_past p1_guests_cells p1_guests_rows p1_host p1_rooms p1_night p1_wheels p1_turned)) hx hb hml hown hts hK hA hl hS (c_X1_howManyIn l D cI cB cZ a_p1 a_p1_wets a_p1_guests a_p1_guests_cells a_p1_sights a_p1_remarks a_p1_marks a_p1_past p1_guests_cells p1_guests_rows p1_host p1_rooms p1_night p1_wheels p1_turned _ _ hq2) (cwV 0 hts gX3_arrange_X1_howManyIn rfl rfl rfl (by decide +kernel) ⟨Nat.le_of_ble_eq_true rfl, Nat.le_of_ble_eq_true rfl⟩) 4 rfl rfl [4, 6, 7] rfl rfl rfl rfl (Nat.le_of_ble_eq_true rfl) dX3_arrange_103 (fun H locs hS => ?_)
      refine lv_isub hx hb dX3_arrange_106 ?_
      refine lv_aload_n hx hb dX3_arrange_107 rfl (lv_at hl 0 rfl) ?_
      refine s_get (C := RX3) (T := TX3) (N := 6) hx hb hts inX3 hown hK hS 0 rfl rfl 0 (by decide) (hts (.fieldLink RX3 11 "InnTurned$Lineup" "best" "[I") (List.mem_of_getElem? (i := 3) rfl)) rfl rfl dX3_arrange_108 ?_
      refine lv_iconst (v := (0 : Int32)) hx hb dX3_arrange_111 (by decide) ?_
      refine s_iald hx hb hK hS 1 rfl rfl (by decide) dX3_arrange_112 ?_
      refine s_min hx hb hml hl.1 hown (hts (.methodLink RX3 55 Lib.Math.min.name) (List.mem_of_getElem? (i := 4) rfl)) (hts (.static Lib.Math.min.name) (List.mem_of_getElem? (i := 5) rfl)) (hts (.initialized "java/lang/Math") (List.mem_of_getElem? (i := 6) rfl)) (hts (.code Lib.Math.min.name Lib.Math.min.code 2 (some .int)) (List.mem_of_getElem? (i := 7) rfl)) (Nat.le_of_ble_eq_true rfl) (Nat.le_of_ble_eq_true rfl) dX3_arrange_113 ?_
      refine s_put (ws' := (wd_X3_arrange cI cB cZ a_this a_best a_likely a_places a_p1 a_p1_wets a_p1_guests a_p1_guests_cells a_p1_sights a_p1_remarks a_p1_marks a_p1_past best likely places all length (if (best (Int32.toNatClampNeg (0 : Int32))) < (p1_rooms - q2) then (best (Int32.toNatClampNeg (0 : Int32))) else (p1_rooms - q2)) p1_wets p1_guests_cells p1_guests_rows p1_host p1_rooms p1_night p1_wheels p1_turned)) (C := RX3) (T := TX3) (N := 6) hx hb hts inX3 tyX3 tyX3_ok nmX3 hown hK hS 0 rfl rfl 5 (by decide) (hts (.fieldLink RX3 61 "InnTurned$Lineup" "let" "I") (List.mem_of_getElem? (i := 8) rfl)) rfl rfl rfl rfl (Nat.le_of_ble_eq_true rfl) rfl dX3_arrange_116 (fun H locs hS => ?_)
      refine lv_aload_n hx hb dX3_arrange_119 rfl (lv_at hl 0 rfl) ?_
      refine lv_aload_n hx hb dX3_arrange_120 rfl (lv_at hl 1 rfl) ?_
      obtain ⟨q3, hq3, h⟩ := s_bind h
      refine r_callvV (As := [.ref a_p1]) (rest := []) (wc := (wd_X3_choose cI cB cZ a_this a_best a_likely a_places a_p1 a_p1_wets a_p1_guests a_p1_sights a_p1_remarks a_p1_marks a_p1_past best likely places all length (if (best (Int32.toNatClampNeg (0 : Int32))) < (p1_rooms - q2) then (best (Int32.toNatClampNeg (0 : Int32))) else (p1_rooms - q2)) p1_wets p1_host p1_rooms p1_night p1_wheels p1_turned)) (w1 := (wd_X3_choose cI cB cZ a_this a_best a_likely a_places a_p1 a_p1_wets a_p1_guests a_p1_sights a_p1_remarks a_p1_marks a_p1_past best likely q3.1 all q3.2 (if (best (Int32.toNatClampNeg (0 : Int32))) < (p1_rooms - q2) then (best (Int32.toNatClampNeg (0 : Int32))) else (p1_rooms - q2)) p1_wets p1_host p1_rooms p1_night p1_wheels p1_turned)) (ws' := (wd_X3_arrange cI cB cZ a_this a_best a_likely a_places a_p1 a_p1_wets a_p1_guests a_p1_guests_cells a_p1_sights a_p1_remarks a_p1_marks a_p1_past best likely q3.1 all q3.2 (if (best (Int32.toNatClampNeg (0 : Int32))) < (p1_rooms - q2) then (best (Int32.toNatClampNeg (0 : Int32))) else (p1_rooms - q2)) p1_wets p1_guests_cells p1_guests_rows p1_host p1_rooms p1_night p1_wheels p1_turned)) hx hb hml hown hts hK hA hl hS (c_X3_choose l D cI cB cZ a_this a_best a_likely a_places a_p1 a_p1_wets a_p1_guests a_p1_sights a_p1_remarks a_p1_marks a_p1_past best likely places all length (if (best (Int32.toNatClampNeg (0 : Int32))) < (p1_rooms - q2) then (best (Int32.toNatClampNeg (0 : Int32))) else (p1_rooms - q2)) p1_wets p1_host p1_rooms p1_night p1_wheels p1_turned _ _ hq3) (cwV 1 hts gX3_arrange_X3_choose rfl rfl rfl (by decide +kernel) ⟨Nat.le_of_ble_eq_true rfl, Nat.le_of_ble_eq_true rfl⟩) 0 rfl rfl [0, 1, 2, 3, 4, 5] rfl rfl rfl [.inr 0, .inr 1, .inr 2, .inr 3, .inr 4, .inr 5, .inl 6, .inl 7] rfl rfl rfl rfl (Nat.le_of_ble_eq_true rfl) dX3_arrange_121 (fun H locs hS => ?_)
      obtain rfl := Option.some.inj h
      exact hend _ _ _ _ dX3_arrange_124 hS
    replace h := s_no c1 h
    refine lv_iload_n hx hb dX3_arrange_68 rfl (lv_at hl 2 rfl) ?_
    refine lv_aload_n hx hb dX3_arrange_69 rfl (lv_at hl 0 rfl) ?_
    refine s_get (C := RX3) (T := TX3) (N := 6) hx hb hts inX3 hown hK hS 0 rfl rfl 3 (by decide) (hts (.fieldLink RX3 21 "InnTurned$Lineup" "all" "I") (List.mem_of_getElem? (i := 1) rfl)) rfl rfl dX3_arrange_70 ?_
    refine lv_iconst (v := (-1 : Int32)) hx hb dX3_arrange_73 (by decide) ?_
    refine lv_ixor hx hb dX3_arrange_74 ?_
    refine lv_iand hx hb dX3_arrange_75 ?_
    refine lv_if_ne (tgt := 91) hx hb dX3_arrange_76 (by decide) (fun c4 => ?_) (fun c4 => ?_)
    · replace h := s_no c4 h
      exact w_X3_arrange_b91 C0 hend (f_X3_arrange_b64 p1_wets p1_guests_cells p1_guests_rows p1_host p1_rooms p1_night p1_wheels fu) ih best likely places all length let_ l2 _ _ _ h hS (lv_sub hl [0, 1, 2] rfl)
    replace h := s_yes c4 h
    refine lv_aload_n hx hb dX3_arrange_79 rfl (lv_at hl 0 rfl) ?_
    refine s_get (C := RX3) (T := TX3) (N := 6) hx hb hts inX3 hown hK hS 0 rfl rfl 0 (by decide) (hts (.fieldLink RX3 11 "InnTurned$Lineup" "best" "[I") (List.mem_of_getElem? (i := 3) rfl)) rfl rfl dX3_arrange_80 ?_
    refine lv_iload_n hx hb dX3_arrange_83 rfl (lv_at hl 2 rfl) ?_
    refine lv_aload_n hx hb dX3_arrange_84 rfl (lv_at hl 0 rfl) ?_
    refine lv_aload_n hx hb dX3_arrange_85 rfl (lv_at hl 1 rfl) ?_
    refine lv_iload_n hx hb dX3_arrange_86 rfl (lv_at hl 2 rfl) ?_
    obtain ⟨q5, hq5, h⟩ := s_bind h
    refine u_calliV (r := q5) (As := [.ref a_p1, .int l2]) (rest := [.int l2, .ref a_best]) (wc := (wd_X3_mostBehind cI cB cZ a_this a_best a_likely a_places a_p1 a_p1_wets a_p1_guests a_p1_sights a_p1_remarks a_p1_marks a_p1_past best likely all length let_ p1_wets p1_host p1_rooms p1_night p1_wheels p1_turned)) hx hb hml hown hts hK hA hl hS (c_X3_mostBehind l D cI cB cZ a_this a_best a_likely a_places a_p1 a_p1_wets a_p1_guests a_p1_sights a_p1_remarks a_p1_marks a_p1_past best likely all length let_ p1_wets p1_host p1_rooms p1_night p1_wheels p1_turned l2 _ _ hq5) (cwV 2 hts gX3_arrange_X3_mostBehind rfl rfl rfl (by decide +kernel) ⟨Nat.le_of_ble_eq_true rfl, Nat.le_of_ble_eq_true rfl⟩) 0 rfl rfl [0, 1, 2, 4, 5] rfl rfl rfl rfl (Nat.le_of_ble_eq_true rfl) dX3_arrange_87 (fun H locs hS => ?_)
    obtain ⟨g6, h⟩ := s_guard h
    refine s_iast (ws' := (wd_X3_arrange cI cB cZ a_this a_best a_likely a_places a_p1 a_p1_wets a_p1_guests a_p1_guests_cells a_p1_sights a_p1_remarks a_p1_marks a_p1_past (upd best (Int32.toNatClampNeg l2) q5) likely places all length let_ p1_wets p1_guests_cells p1_guests_rows p1_host p1_rooms p1_night p1_wheels p1_turned)) hx hb hK hS 1 rfl rfl g6 rfl dX3_arrange_90 (fun H locs hS => ?_)
    exact w_X3_arrange_b91 C0 hend (f_X3_arrange_b64 p1_wets p1_guests_cells p1_guests_rows p1_host p1_rooms p1_night p1_wheels fu) ih (upd best (Int32.toNatClampNeg l2) q5) likely places all length let_ l2 _ _ _ h hS (lv_sub hl [0, 1, 2] rfl)
def f_X3_arrange_b61  (p1_wets : (Nat → Int32)) (p1_guests_cells : (Nat → Int32)) (p1_guests_rows : Int32) (p1_host : Int32) (p1_rooms : Int32) (p1_night : Int32) (p1_wheels : Int32) (best : (Nat → Int32)) (likely : (Nat → Int32)) (places : (Nat → Int32)) (all : Int32) (length : Int32) (let_ : Int32) : Option ((Nat → Int32) × (Nat → Int32) × (Nat → Int32) × Int32 × Int32 × Int32) := f_X3_arrange_b64  p1_wets p1_guests_cells p1_guests_rows p1_host p1_rooms p1_night p1_wheels s_fuel best likely places all length let_ (127 : Int32)
set_option maxHeartbeats 4000000 in
set_option maxRecDepth 100000 in
theorem w_X3_arrange_b61 {p : Program} {l : Launch} {e : Env} {s : State} {m : MethodId} {args : Array Value} {below : List Frame} {meth : Method} {c : Code} {A : Nat → Prop} {Q : State → Prop} {D : va_G} {cI cB cZ : ClassId} {a_this a_best a_likely a_places a_p1 a_p1_wets a_p1_guests a_p1_guests_cells a_p1_sights a_p1_remarks a_p1_marks a_p1_past : Nat} {p1_wets : (Nat → Int32)} {p1_guests_cells : (Nat → Int32)} {p1_guests_rows : Int32} {p1_host : Int32} {p1_rooms : Int32} {p1_night : Int32} {p1_wheels : Int32} {p1_turned : Int32} (C0 : Cx p s m args c cX3_arrange 3 RX3 wsX3_arrange D (s_tys cI cB cZ) A) {rv : (Nat → Int32) × (Nat → Int32) × (Nat → Int32) × Int32 × Int32 × Int32} (hend : ∀ (pc : Nat) (H : Heap) (locs : List Loc) (ls : Array Slot), decode cX3_arrange pc = .ok (.return_, 1) → sS D vwCl A s.heap (wd_X3_arrange cI cB cZ a_this a_best a_likely a_places a_p1 a_p1_wets a_p1_guests a_p1_guests_cells a_p1_sights a_p1_remarks a_p1_marks a_p1_past rv.1 rv.2.1 rv.2.2.1 rv.2.2.2.1 rv.2.2.2.2.1 rv.2.2.2.2.2 p1_wets p1_guests_cells p1_guests_rows p1_host p1_rooms p1_night p1_wheels p1_turned) H locs → W p l e rm_X3_arrange s m args below meth c H locs 0 0 Q (F0 m pc ls [])) : ∀ (best : (Nat → Int32)) (likely : (Nat → Int32)) (places : (Nat → Int32)) (all : Int32) (length : Int32) (let_ : Int32) (H : Heap) (locs : List Loc) (ls : Array Slot), f_X3_arrange_b61 p1_wets p1_guests_cells p1_guests_rows p1_host p1_rooms p1_night p1_wheels best likely places all length let_ = some rv → sS D vwCl A s.heap (wd_X3_arrange cI cB cZ a_this a_best a_likely a_places a_p1 a_p1_wets a_p1_guests a_p1_guests_cells a_p1_sights a_p1_remarks a_p1_marks a_p1_past best likely places all length let_ p1_wets p1_guests_cells p1_guests_rows p1_host p1_rooms p1_night p1_wheels p1_turned) H locs → lv_has ls 3 [(0, .ref a_this), (1, .ref a_p1)] → W p l e rm_X3_arrange s m args below meth c H locs 0 0 Q (F0 m 61 ls []) := by
  obtain ⟨hx, hb, hml, hown, hts, hK, hA⟩ := id C0
  have inX1 : ∀ w ∈ u_ws RX1 TX1 11, w ∈ wsX3_arrange := inX1_X3_arrange
  have inX3 : ∀ w ∈ u_ws RX3 TX3 6, w ∈ wsX3_arrange := inX3_X3_arrange
  have inX5 : ∀ w ∈ u_ws RX5 TX5 4, w ∈ wsX3_arrange := inX5_X3_arrange
  intro best likely places all length let_ H locs ls h hS hl
  unfold f_X3_arrange_b61 at h
  refine lv_bipush (v := (127 : Int32)) hx hb dX3_arrange_61 (by decide) ?_
  refine lv_istore_n (lv' := [(2, .int (127 : Int32)), (0, .ref a_this), (1, .ref a_p1)]) hx hb dX3_arrange_63 rfl hl (by decide) rfl (fun ls hl => ?_)
  exact w_X3_arrange_b64 C0 hend  s_fuel best likely places all length let_ (127 : Int32) _ _ _ h hS (lv_sub hl [1, 2, 0] rfl)
def f_X3_arrange_b55 (k_b7 : (Nat → Int32) → (Nat → Int32) → (Nat → Int32) → Int32 → Int32 → Int32 → Int32 → Option ((Nat → Int32) × (Nat → Int32) × (Nat → Int32) × Int32 × Int32 × Int32))  (p1_wets : (Nat → Int32)) (p1_guests_cells : (Nat → Int32)) (p1_guests_rows : Int32) (p1_host : Int32) (p1_rooms : Int32) (p1_night : Int32) (p1_wheels : Int32) (best : (Nat → Int32)) (likely : (Nat → Int32)) (places : (Nat → Int32)) (all : Int32) (length : Int32) (let_ : Int32) (l2 : Int32) : Option ((Nat → Int32) × (Nat → Int32) × (Nat → Int32) × Int32 × Int32 × Int32) := k_b7 best likely places all length let_ (l2 + (1 : Int32))
set_option maxHeartbeats 4000000 in
set_option maxRecDepth 100000 in
theorem w_X3_arrange_b55 {p : Program} {l : Launch} {e : Env} {s : State} {m : MethodId} {args : Array Value} {below : List Frame} {meth : Method} {c : Code} {A : Nat → Prop} {Q : State → Prop} {D : va_G} {cI cB cZ : ClassId} {a_this a_best a_likely a_places a_p1 a_p1_wets a_p1_guests a_p1_guests_cells a_p1_sights a_p1_remarks a_p1_marks a_p1_past : Nat} {p1_wets : (Nat → Int32)} {p1_guests_cells : (Nat → Int32)} {p1_guests_rows : Int32} {p1_host : Int32} {p1_rooms : Int32} {p1_night : Int32} {p1_wheels : Int32} {p1_turned : Int32} (C0 : Cx p s m args c cX3_arrange 3 RX3 wsX3_arrange D (s_tys cI cB cZ) A) {rv : (Nat → Int32) × (Nat → Int32) × (Nat → Int32) × Int32 × Int32 × Int32} (hend : ∀ (pc : Nat) (H : Heap) (locs : List Loc) (ls : Array Slot), decode cX3_arrange pc = .ok (.return_, 1) → sS D vwCl A s.heap (wd_X3_arrange cI cB cZ a_this a_best a_likely a_places a_p1 a_p1_wets a_p1_guests a_p1_guests_cells a_p1_sights a_p1_remarks a_p1_marks a_p1_past rv.1 rv.2.1 rv.2.2.1 rv.2.2.2.1 rv.2.2.2.2.1 rv.2.2.2.2.2 p1_wets p1_guests_cells p1_guests_rows p1_host p1_rooms p1_night p1_wheels p1_turned) H locs → W p l e rm_X3_arrange s m args below meth c H locs 0 0 Q (F0 m pc ls [])) (k_b7 : (Nat → Int32) → (Nat → Int32) → (Nat → Int32) → Int32 → Int32 → Int32 → Int32 → Option ((Nat → Int32) × (Nat → Int32) × (Nat → Int32) × Int32 × Int32 × Int32)) (hk_b7 : ∀ (best : (Nat → Int32)) (likely : (Nat → Int32)) (places : (Nat → Int32)) (all : Int32) (length : Int32) (let_ : Int32) (l2 : Int32) (H : Heap) (locs : List Loc) (ls : Array Slot), k_b7 best likely places all length let_ l2 = some rv → sS D vwCl A s.heap (wd_X3_arrange cI cB cZ a_this a_best a_likely a_places a_p1 a_p1_wets a_p1_guests a_p1_guests_cells a_p1_sights a_p1_remarks a_p1_marks a_p1_past best likely places all length let_ p1_wets p1_guests_cells p1_guests_rows p1_host p1_rooms p1_night p1_wheels p1_turned) H locs → lv_has ls 3 [(0, .ref a_this), (1, .ref a_p1), (2, .int l2)] → W p l e rm_X3_arrange s m args below meth c H locs 0 0 Q (F0 m 7 ls [])) : ∀ (best : (Nat → Int32)) (likely : (Nat → Int32)) (places : (Nat → Int32)) (all : Int32) (length : Int32) (let_ : Int32) (l2 : Int32) (H : Heap) (locs : List Loc) (ls : Array Slot), f_X3_arrange_b55 k_b7 p1_wets p1_guests_cells p1_guests_rows p1_host p1_rooms p1_night p1_wheels best likely places all length let_ l2 = some rv → sS D vwCl A s.heap (wd_X3_arrange cI cB cZ a_this a_best a_likely a_places a_p1 a_p1_wets a_p1_guests a_p1_guests_cells a_p1_sights a_p1_remarks a_p1_marks a_p1_past best likely places all length let_ p1_wets p1_guests_cells p1_guests_rows p1_host p1_rooms p1_night p1_wheels p1_turned) H locs → lv_has ls 3 [(0, .ref a_this), (1, .ref a_p1), (2, .int l2)] → W p l e rm_X3_arrange s m args below meth c H locs 0 0 Q (F0 m 55 ls []) := by
  obtain ⟨hx, hb, hml, hown, hts, hK, hA⟩ := id C0
  have inX1 : ∀ w ∈ u_ws RX1 TX1 11, w ∈ wsX3_arrange := inX1_X3_arrange
  have inX3 : ∀ w ∈ u_ws RX3 TX3 6, w ∈ wsX3_arrange := inX3_X3_arrange
  have inX5 : ∀ w ∈ u_ws RX5 TX5 4, w ∈ wsX3_arrange := inX5_X3_arrange
  intro best likely places all length let_ l2 H locs ls h hS hl
  unfold f_X3_arrange_b55 at h
  refine lv_iinc (v := (l2 + (1 : Int32))) (lv' := [(2, .int (l2 + (1 : Int32))), (0, .ref a_this), (1, .ref a_p1)]) hx hb dX3_arrange_55 hl (k := 2) rfl rfl (by decide) rfl (fun ls hl => ?_)
  refine lv_goto (tgt := 7) hx hb dX3_arrange_58 (by decide) ?_
  exact hk_b7 best likely places all length let_ (l2 + (1 : Int32)) _ _ _ h hS (lv_sub hl [1, 2, 0] rfl)
def f_X3_arrange_b7  (p1_wets : (Nat → Int32)) (p1_guests_cells : (Nat → Int32)) (p1_guests_rows : Int32) (p1_host : Int32) (p1_rooms : Int32) (p1_night : Int32) (p1_wheels : Int32) : Nat → (Nat → Int32) → (Nat → Int32) → (Nat → Int32) → Int32 → Int32 → Int32 → Int32 → Option ((Nat → Int32) × (Nat → Int32) × (Nat → Int32) × Int32 × Int32 × Int32)
  | 0, _, _, _, _, _, _, _ => none
  | fu + 1, best, likely, places, all, length, let_, l2 => (if p1_guests_rows ≤ l2 then f_X3_arrange_b61  p1_wets p1_guests_cells p1_guests_rows p1_host p1_rooms p1_night p1_wheels best likely places all length let_ else (if (7 : Int32) ≤ l2 then f_X3_arrange_b61  p1_wets p1_guests_cells p1_guests_rows p1_host p1_rooms p1_night p1_wheels best likely places all length let_ else ((f_X1_likelyNow p1_guests_cells p1_guests_rows p1_night l2).bind fun q9 => (if ¬ (l2 < 0 ∨ 7 ≤ (Int32.toNatClampNeg l2)) then ((f_X1_isIn p1_guests_cells p1_guests_rows l2).bind fun q11 => (if q11 = 0 then f_X3_arrange_b55 (f_X3_arrange_b7 p1_wets p1_guests_cells p1_guests_rows p1_host p1_rooms p1_night p1_wheels fu) p1_wets p1_guests_cells p1_guests_rows p1_host p1_rooms p1_night p1_wheels best (upd likely (Int32.toNatClampNeg l2) q9) places (all ||| ((1 : Int32) <<< (l2 &&& 31))) length let_ l2 else f_X3_arrange_b55 (f_X3_arrange_b7 p1_wets p1_guests_cells p1_guests_rows p1_host p1_rooms p1_night p1_wheels fu) p1_wets p1_guests_cells p1_guests_rows p1_host p1_rooms p1_night p1_wheels best (upd likely (Int32.toNatClampNeg l2) q9) places all length let_ l2)) else none))))
set_option maxHeartbeats 4000000 in
set_option maxRecDepth 100000 in
theorem w_X3_arrange_b7 {p : Program} {l : Launch} {e : Env} {s : State} {m : MethodId} {args : Array Value} {below : List Frame} {meth : Method} {c : Code} {A : Nat → Prop} {Q : State → Prop} {D : va_G} {cI cB cZ : ClassId} {a_this a_best a_likely a_places a_p1 a_p1_wets a_p1_guests a_p1_guests_cells a_p1_sights a_p1_remarks a_p1_marks a_p1_past : Nat} {p1_wets : (Nat → Int32)} {p1_guests_cells : (Nat → Int32)} {p1_guests_rows : Int32} {p1_host : Int32} {p1_rooms : Int32} {p1_night : Int32} {p1_wheels : Int32} {p1_turned : Int32} (C0 : Cx p s m args c cX3_arrange 3 RX3 wsX3_arrange D (s_tys cI cB cZ) A) {rv : (Nat → Int32) × (Nat → Int32) × (Nat → Int32) × Int32 × Int32 × Int32} (hend : ∀ (pc : Nat) (H : Heap) (locs : List Loc) (ls : Array Slot), decode cX3_arrange pc = .ok (.return_, 1) → sS D vwCl A s.heap (wd_X3_arrange cI cB cZ a_this a_best a_likely a_places a_p1 a_p1_wets a_p1_guests a_p1_guests_cells a_p1_sights a_p1_remarks a_p1_marks a_p1_past rv.1 rv.2.1 rv.2.2.1 rv.2.2.2.1 rv.2.2.2.2.1 rv.2.2.2.2.2 p1_wets p1_guests_cells p1_guests_rows p1_host p1_rooms p1_night p1_wheels p1_turned) H locs → W p l e rm_X3_arrange s m args below meth c H locs 0 0 Q (F0 m pc ls [])) : ∀ (fu : Nat) (best : (Nat → Int32)) (likely : (Nat → Int32)) (places : (Nat → Int32)) (all : Int32) (length : Int32) (let_ : Int32) (l2 : Int32) (H : Heap) (locs : List Loc) (ls : Array Slot), f_X3_arrange_b7 p1_wets p1_guests_cells p1_guests_rows p1_host p1_rooms p1_night p1_wheels fu best likely places all length let_ l2 = some rv → sS D vwCl A s.heap (wd_X3_arrange cI cB cZ a_this a_best a_likely a_places a_p1 a_p1_wets a_p1_guests a_p1_guests_cells a_p1_sights a_p1_remarks a_p1_marks a_p1_past best likely places all length let_ p1_wets p1_guests_cells p1_guests_rows p1_host p1_rooms p1_night p1_wheels p1_turned) H locs → lv_has ls 3 [(0, .ref a_this), (1, .ref a_p1), (2, .int l2)] → W p l e rm_X3_arrange s m args below meth c H locs 0 0 Q (F0 m 7 ls []) := by
  obtain ⟨hx, hb, hml, hown, hts, hK, hA⟩ := id C0
  have inX1 : ∀ w ∈ u_ws RX1 TX1 11, w ∈ wsX3_arrange := inX1_X3_arrange
  have inX3 : ∀ w ∈ u_ws RX3 TX3 6, w ∈ wsX3_arrange := inX3_X3_arrange
  have inX5 : ∀ w ∈ u_ws RX5 TX5 4, w ∈ wsX3_arrange := inX5_X3_arrange
  intro fu
  induction fu with
  | zero => intro best likely places all length let_ l2 H locs ls h; cases h
  | succ fu ih =>
    intro best likely places all length let_ l2 H locs ls h hS hl
    rw [f_X3_arrange_b7] at h
    refine lv_iload_n hx hb dX3_arrange_7 rfl (lv_at hl 2 rfl) ?_
    refine lv_aload_n hx hb dX3_arrange_8 rfl (lv_at hl 1 rfl) ?_
    refine s_getN (C := RX1) (T := TX1) (N := 11) hx hb hts inX1 hown hK hS 4 rfl rfl 1 (by decide) 6 rfl rfl rfl dX3_arrange_9 ?_
    refine s_getN (C := RX5) (T := TX5) (N := 4) hx hb hts inX5 hown hK hS 6 rfl rfl 3 (by decide) 1 rfl rfl rfl dX3_arrange_12 ?_
    refine lv_icmp_ge (tgt := 61) hx hb dX3_arrange_15 (by decide) (fun c7 => ?_) (fun c7 => ?_)
    · replace h := s_yes c7 h
      exact w_X3_arrange_b61 C0 hend  best likely places all length let_ _ _ _ h hS (lv_sub hl [0, 1] rfl)
    replace h := s_no c7 h
    refine lv_iload_n hx hb dX3_arrange_18 rfl (lv_at hl 2 rfl) ?_
    refine lv_bipush (v := (7 : Int32)) hx hb dX3_arrange_19 (by decide) ?_
    refine lv_icmp_ge (tgt := 61) hx hb dX3_arrange_21 (by decide) (fun c8 => ?_) (fun c8 => ?_)
    · replace h := s_yes c8 h
      exact w_X3_arrange_b61 C0 hend  best likely places all length let_ _ _ _ h hS (lv_sub hl [0, 1] rfl)
    replace h := s_no c8 h
    refine lv_aload_n hx hb dX3_arrange_24 rfl (lv_at hl 0 rfl) ?_
    refine s_get (C := RX3) (T := TX3) (N := 6) hx hb hts inX3 hown hK hS 0 rfl rfl 1 (by decide) (hts (.fieldLink RX3 15 "InnTurned$Lineup" "likely" "[I") (List.mem_of_getElem? (i := 2) rfl)) rfl rfl dX3_arrange_25 ?_
    refine lv_iload_n hx hb dX3_arrange_28 rfl (lv_at hl 2 rfl) ?_
    refine lv_aload_n hx hb dX3_arrange_29 rfl (lv_at hl 1 rfl) ?_
    refine lv_iload_n hx hb dX3_arrange_30 rfl (lv_at hl 2 rfl) ?_
    obtain ⟨q9, hq9, h⟩ := s_bind h
    refine u_calliV (r := q9) (As := [.int l2]) (rest := [.int l2, .ref a_likely]) (wc := (wd_X1_likelyNow cI cB cZ a_p1 a_p1_wets a_p1_guests a_p1_guests_cells a_p1_sights a_p1_remarks a_p1_marks a_p1_past p1_guests_cells p1_guests_rows p1_host p1_rooms p1_night p1_wheels p1_turned)) hx hb hml hown hts hK hA hl hS (c_X1_likelyNow l D cI cB cZ a_p1 a_p1_wets a_p1_guests a_p1_guests_cells a_p1_sights a_p1_remarks a_p1_marks a_p1_past p1_guests_cells p1_guests_rows p1_host p1_rooms p1_night p1_wheels p1_turned l2 _ _ hq9) (cwV 1 hts gX3_arrange_X1_likelyNow rfl rfl rfl (by decide +kernel) ⟨Nat.le_of_ble_eq_true rfl, Nat.le_of_ble_eq_true rfl⟩) 4 rfl rfl [4, 6, 7] rfl rfl rfl rfl (Nat.le_of_ble_eq_true rfl) dX3_arrange_31 (fun H locs hS => ?_)
    obtain ⟨g10, h⟩ := s_guard h
    refine s_iast (ws' := (wd_X3_arrange cI cB cZ a_this a_best a_likely a_places a_p1 a_p1_wets a_p1_guests a_p1_guests_cells a_p1_sights a_p1_remarks a_p1_marks a_p1_past best (upd likely (Int32.toNatClampNeg l2) q9) places all length let_ p1_wets p1_guests_cells p1_guests_rows p1_host p1_rooms p1_night p1_wheels p1_turned)) hx hb hK hS 2 rfl rfl g10 rfl dX3_arrange_34 (fun H locs hS => ?_)
    refine lv_aload_n hx hb dX3_arrange_35 rfl (lv_at hl 1 rfl) ?_
    refine lv_iload_n hx hb dX3_arrange_36 rfl (lv_at hl 2 rfl) ?_
    obtain ⟨q11, hq11, h⟩ := s_bind h
    refine u_calliV (r := q11) (As := [.int l2]) (rest := []) (wc := (wd_X1_isIn cI cB cZ a_p1 a_p1_wets a_p1_guests a_p1_guests_cells a_p1_sights a_p1_remarks a_p1_marks a_p1_past p1_guests_cells p1_guests_rows p1_host p1_rooms p1_night p1_wheels p1_turned)) hx hb hml hown hts hK hA hl hS (c_X1_isIn l D cI cB cZ a_p1 a_p1_wets a_p1_guests a_p1_guests_cells a_p1_sights a_p1_remarks a_p1_marks a_p1_past p1_guests_cells p1_guests_rows p1_host p1_rooms p1_night p1_wheels p1_turned l2 _ _ hq11) (cwV 1 hts gX3_arrange_X1_isIn rfl rfl rfl (by decide +kernel) ⟨Nat.le_of_ble_eq_true rfl, Nat.le_of_ble_eq_true rfl⟩) 4 rfl rfl [4, 6, 7] rfl rfl rfl rfl (Nat.le_of_ble_eq_true rfl) dX3_arrange_37 (fun H locs hS => ?_)
    refine lv_if_ne (tgt := 55) hx hb dX3_arrange_40 (by decide) (fun c12 => ?_) (fun c12 => ?_)
    · replace h := s_no c12 h
      exact w_X3_arrange_b55 C0 hend (f_X3_arrange_b7 p1_wets p1_guests_cells p1_guests_rows p1_host p1_rooms p1_night p1_wheels fu) ih best (upd likely (Int32.toNatClampNeg l2) q9) places all length let_ l2 _ _ _ h hS (lv_sub hl [0, 1, 2] rfl)
    replace h := s_yes c12 h
    refine lv_aload_n hx hb dX3_arrange_43 rfl (lv_at hl 0 rfl) ?_
    refine lv_dup hx hb dX3_arrange_44 rfl ?_
    refine s_get (C := RX3) (T := TX3) (N := 6) hx hb hts inX3 hown hK hS 0 rfl rfl 3 (by decide) (hts (.fieldLink RX3 21 "InnTurned$Lineup" "all" "I") (List.mem_of_getElem? (i := 1) rfl)) rfl rfl dX3_arrange_45 ?_
    refine lv_iconst (v := (1 : Int32)) hx hb dX3_arrange_48 (by decide) ?_
    refine lv_iload_n hx hb dX3_arrange_49 rfl (lv_at hl 2 rfl) ?_
    refine lv_ishl hx hb dX3_arrange_50 ?_
    refine lv_ior hx hb dX3_arrange_51 ?_
    refine s_put (ws' := (wd_X3_arrange cI cB cZ a_this a_best a_likely a_places a_p1 a_p1_wets a_p1_guests a_p1_guests_cells a_p1_sights a_p1_remarks a_p1_marks a_p1_past best (upd likely (Int32.toNatClampNeg l2) q9) places (all ||| ((1 : Int32) <<< (l2 &&& 31))) length let_ p1_wets p1_guests_cells p1_guests_rows p1_host p1_rooms p1_night p1_wheels p1_turned)) (C := RX3) (T := TX3) (N := 6) hx hb hts inX3 tyX3 tyX3_ok nmX3 hown hK hS 0 rfl rfl 3 (by decide) (hts (.fieldLink RX3 21 "InnTurned$Lineup" "all" "I") (List.mem_of_getElem? (i := 1) rfl)) rfl rfl rfl rfl (Nat.le_of_ble_eq_true rfl) rfl dX3_arrange_52 (fun H locs hS => ?_)
    exact w_X3_arrange_b55 C0 hend (f_X3_arrange_b7 p1_wets p1_guests_cells p1_guests_rows p1_host p1_rooms p1_night p1_wheels fu) ih best (upd likely (Int32.toNatClampNeg l2) q9) places (all ||| ((1 : Int32) <<< (l2 &&& 31))) length let_ l2 _ _ _ h hS (lv_sub hl [0, 1, 2] rfl)
def f_X3_arrange  (p1_wets : (Nat → Int32)) (p1_guests_cells : (Nat → Int32)) (p1_guests_rows : Int32) (p1_host : Int32) (p1_rooms : Int32) (p1_night : Int32) (p1_wheels : Int32) (best : (Nat → Int32)) (likely : (Nat → Int32)) (places : (Nat → Int32)) (all : Int32) (length : Int32) (let_ : Int32) : Option ((Nat → Int32) × (Nat → Int32) × (Nat → Int32) × Int32 × Int32 × Int32) := f_X3_arrange_b7  p1_wets p1_guests_cells p1_guests_rows p1_host p1_rooms p1_night p1_wheels s_fuel best likely places (0 : Int32) length let_ (0 : Int32)
set_option maxHeartbeats 4000000 in
set_option maxRecDepth 100000 in
theorem c_X3_arrange (l : Launch) (D : va_G) (cI cB cZ : ClassId) (a_this : Nat) (a_best : Nat) (a_likely : Nat) (a_places : Nat) (a_p1 : Nat) (a_p1_wets : Nat) (a_p1_guests : Nat) (a_p1_guests_cells : Nat) (a_p1_sights : Nat) (a_p1_remarks : Nat) (a_p1_marks : Nat) (a_p1_past : Nat) (best : (Nat → Int32)) (likely : (Nat → Int32)) (places : (Nat → Int32)) (all : Int32) (length : Int32) (let_ : Int32) (p1_wets : (Nat → Int32)) (p1_guests_cells : (Nat → Int32)) (p1_guests_rows : Int32) (p1_host : Int32) (p1_rooms : Int32) (p1_night : Int32) (p1_wheels : Int32) (p1_turned : Int32) (rv : (Nat → Int32) × (Nat → Int32) × (Nat → Int32) × Int32 × Int32 × Int32) (sz : Nat) (hf : f_X3_arrange p1_wets p1_guests_cells p1_guests_rows p1_host p1_rooms p1_night p1_wheels best likely places all length let_ = some rv) : Met l yX3_arrange wsX3_arrange rm_X3_arrange (sPc D vwCl (s_tys cI cB cZ) [.ref a_this, .ref a_p1] (wd_X3_arrange cI cB cZ a_this a_best a_likely a_places a_p1 a_p1_wets a_p1_guests a_p1_guests_cells a_p1_sights a_p1_remarks a_p1_marks a_p1_past best likely places all length let_ p1_wets p1_guests_cells p1_guests_rows p1_host p1_rooms p1_night p1_wheels p1_turned) sz) (sQv D vwCl (wd_X3_arrange cI cB cZ a_this a_best a_likely a_places a_p1 a_p1_wets a_p1_guests a_p1_guests_cells a_p1_sights a_p1_remarks a_p1_marks a_p1_past best likely places all length let_ p1_wets p1_guests_cells p1_guests_rows p1_host p1_rooms p1_night p1_wheels p1_turned) (wd_X3_arrange cI cB cZ a_this a_best a_likely a_places a_p1 a_p1_wets a_p1_guests a_p1_guests_cells a_p1_sights a_p1_remarks a_p1_marks a_p1_past rv.1 rv.2.1 rv.2.2.1 rv.2.2.2.1 rv.2.2.2.2.1 rv.2.2.2.2.2 p1_wets p1_guests_cells p1_guests_rows p1_host p1_rooms p1_night p1_wheels p1_turned) sz) 0 0 (va_A (wd_X3_arrange cI cB cZ a_this a_best a_likely a_places a_p1 a_p1_wets a_p1_guests a_p1_guests_cells a_p1_sights a_p1_remarks a_p1_marks a_p1_past best likely places all length let_ p1_wets p1_guests_cells p1_guests_rows p1_host p1_rooms p1_night p1_wheels p1_turned) sz) := by
  refine s_enter_v (cc := cX3_arrange) (nL := 3) (by decide) rfl (Nat.le_of_ble_eq_true rfl) ?_
  intro p e s m args below meth c A Q C0 hend ls hl hS
  have h := hf
  clear hf
  replace hl : lv_has ls 3 [(0, .ref a_this), (1, .ref a_p1)] := hl
  unfold f_X3_arrange at h
  obtain ⟨hx, hb, hml, hown, hts, hK, hA⟩ := id C0
  have inX1 : ∀ w ∈ u_ws RX1 TX1 11, w ∈ wsX3_arrange := inX1_X3_arrange
  have inX3 : ∀ w ∈ u_ws RX3 TX3 6, w ∈ wsX3_arrange := inX3_X3_arrange
  have inX5 : ∀ w ∈ u_ws RX5 TX5 4, w ∈ wsX3_arrange := inX5_X3_arrange
  refine lv_aload_n hx hb dX3_arrange_0 rfl (lv_at hl 0 rfl) ?_
  refine lv_iconst (v := (0 : Int32)) hx hb dX3_arrange_1 (by decide) ?_
  refine s_put (ws' := (wd_X3_arrange cI cB cZ a_this a_best a_likely a_places a_p1 a_p1_wets a_p1_guests a_p1_guests_cells a_p1_sights a_p1_remarks a_p1_marks a_p1_past best likely places (0 : Int32) length let_ p1_wets p1_guests_cells p1_guests_rows p1_host p1_rooms p1_night p1_wheels p1_turned)) (C := RX3) (T := TX3) (N := 6) hx hb hts inX3 tyX3 tyX3_ok nmX3 hown hK hS 0 rfl rfl 3 (by decide) (hts (.fieldLink RX3 21 "InnTurned$Lineup" "all" "I") (List.mem_of_getElem? (i := 1) rfl)) rfl rfl rfl rfl (Nat.le_of_ble_eq_true rfl) rfl dX3_arrange_2 (fun H locs hS => ?_)
  refine lv_iconst (v := (0 : Int32)) hx hb dX3_arrange_5 (by decide) ?_
  refine lv_istore_n (lv' := [(2, .int (0 : Int32)), (0, .ref a_this), (1, .ref a_p1)]) hx hb dX3_arrange_6 rfl hl (by decide) rfl (fun ls hl => ?_)
  exact w_X3_arrange_b7 C0 hend  s_fuel best likely places (0 : Int32) length let_ (0 : Int32) _ _ _ h hS (lv_sub hl [1, 2, 0] rfl)

-- InnTurned$Lineup.place(I)I
def wd_X3_place (cI cB cZ : ClassId) (a_this : Nat) (a_best : Nat) (a_likely : Nat) (a_places : Nat)  (places : (Nat → Int32)) (all : Int32) (length : Int32) (let_ : Int32) : va_W := [(a_this, .inr (1, [.ref a_best, .ref a_likely, .ref a_places, .int all, .int length, .int let_])), (a_places, .inl (cI, 7, .inl places))]
abbrev rm_X3_place : Room := { frames := 0, cells := 0, slots := 0, locals := 0 }
set_option maxRecDepth 20000 in
theorem inX3_X3_place : ∀ w ∈ u_ws RX3 TX3 6, w ∈ wsX3_place := by decide +kernel
def f_X3_place  (places : (Nat → Int32)) (length : Int32)  (p1 : Int32) : Option (Int32) := (if p1 < 0 then some ((-1 : Int32)) else (if length ≤ p1 then some ((-1 : Int32)) else (if (7 : Int32) ≤ p1 then some ((-1 : Int32)) else (if ¬ (p1 < 0 ∨ 7 ≤ (Int32.toNatClampNeg p1)) then some ((places (Int32.toNatClampNeg p1))) else none))))
set_option maxHeartbeats 4000000 in
set_option maxRecDepth 100000 in
theorem c_X3_place (l : Launch) (D : va_G) (cI cB cZ : ClassId) (a_this : Nat) (a_best : Nat) (a_likely : Nat) (a_places : Nat) (places : (Nat → Int32)) (all : Int32) (length : Int32) (let_ : Int32) (p1 : Int32) (rv : Int32) (sz : Nat) (hf : f_X3_place places length p1 = some rv) : Met l yX3_place wsX3_place rm_X3_place (sPc D vwCl (s_tys cI cB cZ) [.ref a_this, .int p1] (wd_X3_place cI cB cZ a_this a_best a_likely a_places places all length let_) sz) (sQi D vwCl (wd_X3_place cI cB cZ a_this a_best a_likely a_places places all length let_) (wd_X3_place cI cB cZ a_this a_best a_likely a_places places all length let_) sz rv) 0 0 (va_A (wd_X3_place cI cB cZ a_this a_best a_likely a_places places all length let_) sz) := by
  refine s_enter_n (cc := cX3_place) (nL := 2) (r := rv) (by decide) rfl (Nat.le_of_ble_eq_true rfl) ?_
  intro p e s m args below meth c A Q C0 hend ls hl hS
  have h := hf
  clear hf
  replace hl : lv_has ls 2 [(0, .ref a_this), (1, .int p1)] := hl
  unfold f_X3_place at h
  obtain ⟨hx, hb, hml, hown, hts, hK, hA⟩ := id C0
  have inX3 : ∀ w ∈ u_ws RX3 TX3 6, w ∈ wsX3_place := inX3_X3_place
  refine lv_iload_n hx hb dX3_place_0 rfl (lv_at hl 1 rfl) ?_
  refine lv_if_lt (tgt := 27) hx hb dX3_place_1 (by decide) (fun c1 => ?_) (fun c1 => ?_)
  · replace h := s_yes c1 h
    refine lv_iconst (v := (-1 : Int32)) hx hb dX3_place_27 (by decide) ?_
    obtain rfl := Option.some.inj h
    exact hend _ _ _ _ dX3_place_28 hS
  replace h := s_no c1 h
  refine lv_iload_n hx hb dX3_place_4 rfl (lv_at hl 1 rfl) ?_
  refine lv_aload_n hx hb dX3_place_5 rfl (lv_at hl 0 rfl) ?_
  refine s_get (C := RX3) (T := TX3) (N := 6) hx hb hts inX3 hown hK hS 0 rfl rfl 4 (by decide) (hts (.fieldLink RX3 68 "InnTurned$Lineup" "length" "I") (List.mem_of_getElem? (i := 1) rfl)) rfl rfl dX3_place_6 ?_
  refine lv_icmp_ge (tgt := 27) hx hb dX3_place_9 (by decide) (fun c2 => ?_) (fun c2 => ?_)
  · replace h := s_yes c2 h
    refine lv_iconst (v := (-1 : Int32)) hx hb dX3_place_27 (by decide) ?_
    obtain rfl := Option.some.inj h
    exact hend _ _ _ _ dX3_place_28 hS
  replace h := s_no c2 h
  refine lv_iload_n hx hb dX3_place_12 rfl (lv_at hl 1 rfl) ?_
  refine lv_bipush (v := (7 : Int32)) hx hb dX3_place_13 (by decide) ?_
  refine lv_icmp_ge (tgt := 27) hx hb dX3_place_15 (by decide) (fun c3 => ?_) (fun c3 => ?_)
  · replace h := s_yes c3 h
    refine lv_iconst (v := (-1 : Int32)) hx hb dX3_place_27 (by decide) ?_
    obtain rfl := Option.some.inj h
    exact hend _ _ _ _ dX3_place_28 hS
  replace h := s_no c3 h
  refine lv_aload_n hx hb dX3_place_18 rfl (lv_at hl 0 rfl) ?_
  refine s_get (C := RX3) (T := TX3) (N := 6) hx hb hts inX3 hown hK hS 0 rfl rfl 2 (by decide) (hts (.fieldLink RX3 18 "InnTurned$Lineup" "places" "[I") (List.mem_of_getElem? (i := 2) rfl)) rfl rfl dX3_place_19 ?_
  refine lv_iload_n hx hb dX3_place_22 rfl (lv_at hl 1 rfl) ?_
  obtain ⟨g4, h⟩ := s_guard h
  refine s_iald hx hb hK hS 1 rfl rfl g4 dX3_place_23 ?_
  refine lv_goto (tgt := 28) hx hb dX3_place_24 (by decide) ?_
  obtain rfl := Option.some.inj h
  exact hend _ _ _ _ dX3_place_28 hS

-- InnTurned$Script.isFull()Z
def wd_X4_isFull (cI cB cZ : ClassId) (a_this : Nat) (a_bytes : Nat)  (size : Int32) (next : Int32) (start : Int32) (token : Int32) (number : Int32) : va_W := [(a_this, .inr (2, [.ref a_bytes, .int size, .int next, .int start, .int token, .int number]))]
abbrev rm_X4_isFull : Room := { frames := 0, cells := 0, slots := 0, locals := 0 }
set_option maxRecDepth 20000 in
theorem inX4_X4_isFull : ∀ w ∈ u_ws RX4 TX4 6, w ∈ wsX4_isFull := by decide +kernel
def f_X4_isFull  (size : Int32)  : Option (Int32) := (if size < (150 : Int32) then some ((0 : Int32)) else some ((1 : Int32)))
set_option maxHeartbeats 4000000 in
set_option maxRecDepth 100000 in
theorem c_X4_isFull (l : Launch) (D : va_G) (cI cB cZ : ClassId) (a_this : Nat) (a_bytes : Nat) (size : Int32) (next : Int32) (start : Int32) (token : Int32) (number : Int32) (rv : Int32) (sz : Nat) (hf : f_X4_isFull size = some rv) : Met l yX4_isFull wsX4_isFull rm_X4_isFull (sPc D vwCl (s_tys cI cB cZ) [.ref a_this] (wd_X4_isFull cI cB cZ a_this a_bytes size next start token number) sz) (sQi D vwCl (wd_X4_isFull cI cB cZ a_this a_bytes size next start token number) (wd_X4_isFull cI cB cZ a_this a_bytes size next start token number) sz rv) 0 0 (va_A (wd_X4_isFull cI cB cZ a_this a_bytes size next start token number) sz) := by
  refine s_enter_z (cc := cX4_isFull) (nL := 1) (r := rv) (by decide) rfl (Nat.le_of_ble_eq_true rfl) ?_
  intro p e s m args below meth c A Q C0 hend ls hl hS
  have h := hf
  clear hf
  replace hl : lv_has ls 1 [(0, .ref a_this)] := hl
  unfold f_X4_isFull at h
  obtain ⟨hx, hb, hml, hown, hts, hK, hA⟩ := id C0
  have inX4 : ∀ w ∈ u_ws RX4 TX4 6, w ∈ wsX4_isFull := inX4_X4_isFull
  refine lv_aload_n hx hb dX4_isFull_0 rfl (lv_at hl 0 rfl) ?_
  refine s_get (C := RX4) (T := TX4) (N := 6) hx hb hts inX4 hown hK hS 0 rfl rfl 1 (by decide) (hts (.fieldLink RX4 15 "InnTurned$Script" "size" "I") (List.mem_of_getElem? (i := 1) rfl)) rfl rfl dX4_isFull_1 ?_
  refine lv_sipush (v := (150 : Int32)) hx hb dX4_isFull_4 (by decide) ?_
  refine lv_icmp_lt (tgt := 14) hx hb dX4_isFull_7 (by decide) (fun c1 => ?_) (fun c1 => ?_)
  · replace h := s_yes c1 h
    refine lv_iconst (v := (0 : Int32)) hx hb dX4_isFull_14 (by decide) ?_
    obtain rfl := Option.some.inj h
    exact hend _ _ _ _ dX4_isFull_15 (Or.inl rfl) hS
  replace h := s_no c1 h
  refine lv_iconst (v := (1 : Int32)) hx hb dX4_isFull_10 (by decide) ?_
  refine lv_goto (tgt := 15) hx hb dX4_isFull_11 (by decide) ?_
  obtain rfl := Option.some.inj h
  exact hend _ _ _ _ dX4_isFull_15 (Or.inr rfl) hS

-- InnTurned$Script.append(I)V
def wd_X4_append (cI cB cZ : ClassId) (a_this : Nat) (a_bytes : Nat)  (bytes : (Nat → Int32)) (size : Int32) (next : Int32) (start : Int32) (token : Int32) (number : Int32) : va_W := [(a_this, .inr (2, [.ref a_bytes, .int size, .int next, .int start, .int token, .int number])), (a_bytes, .inl (cB, 150, .inl bytes))]
abbrev rm_X4_append : Room := { frames := 0, cells := 0, slots := 0, locals := 0 }
set_option maxRecDepth 20000 in
theorem inX4_X4_append : ∀ w ∈ u_ws RX4 TX4 6, w ∈ wsX4_append := by decide +kernel
def f_X4_append   (bytes : (Nat → Int32)) (size : Int32) (p1 : Int32) : Option ((Nat → Int32) × Int32) := (if size < 0 then some (bytes, size) else (if size < (150 : Int32) then (if ¬ (size < 0 ∨ 150 ≤ (Int32.toNatClampNeg size)) then some ((upd bytes (Int32.toNatClampNeg size) (vp_nar .byte ((Int32.toInt8 p1).toInt32))), (size + (1 : Int32))) else none) else some (bytes, size)))
set_option maxHeartbeats 4000000 in
set_option maxRecDepth 100000 in
theorem c_X4_append (l : Launch) (D : va_G) (cI cB cZ : ClassId) (a_this : Nat) (a_bytes : Nat) (bytes : (Nat → Int32)) (size : Int32) (next : Int32) (start : Int32) (token : Int32) (number : Int32) (p1 : Int32) (rv : (Nat → Int32) × Int32) (sz : Nat) (hf : f_X4_append bytes size p1 = some rv) : Met l yX4_append wsX4_append rm_X4_append (sPc D vwCl (s_tys cI cB cZ) [.ref a_this, .int p1] (wd_X4_append cI cB cZ a_this a_bytes bytes size next start token number) sz) (sQv D vwCl (wd_X4_append cI cB cZ a_this a_bytes bytes size next start token number) (wd_X4_append cI cB cZ a_this a_bytes rv.1 rv.2 next start token number) sz) 0 0 (va_A (wd_X4_append cI cB cZ a_this a_bytes bytes size next start token number) sz) := by
  refine s_enter_v (cc := cX4_append) (nL := 2) (by decide) rfl (Nat.le_of_ble_eq_true rfl) ?_
  intro p e s m args below meth c A Q C0 hend ls hl hS
  have h := hf
  clear hf
  replace hl : lv_has ls 2 [(0, .ref a_this), (1, .int p1)] := hl
  unfold f_X4_append at h
  obtain ⟨hx, hb, hml, hown, hts, hK, hA⟩ := id C0
  have inX4 : ∀ w ∈ u_ws RX4 TX4 6, w ∈ wsX4_append := inX4_X4_append
  refine lv_aload_n hx hb dX4_append_0 rfl (lv_at hl 0 rfl) ?_
  refine s_get (C := RX4) (T := TX4) (N := 6) hx hb hts inX4 hown hK hS 0 rfl rfl 1 (by decide) (hts (.fieldLink RX4 15 "InnTurned$Script" "size" "I") (List.mem_of_getElem? (i := 1) rfl)) rfl rfl dX4_append_1 ?_
  refine lv_if_lt (tgt := 17) hx hb dX4_append_4 (by decide) (fun c1 => ?_) (fun c1 => ?_)
  · replace h := s_yes c1 h
    obtain rfl := Option.some.inj h
    exact hend _ _ _ _ dX4_append_17 hS
  replace h := s_no c1 h
  refine lv_aload_n hx hb dX4_append_7 rfl (lv_at hl 0 rfl) ?_
  refine s_get (C := RX4) (T := TX4) (N := 6) hx hb hts inX4 hown hK hS 0 rfl rfl 1 (by decide) (hts (.fieldLink RX4 15 "InnTurned$Script" "size" "I") (List.mem_of_getElem? (i := 1) rfl)) rfl rfl dX4_append_8 ?_
  refine lv_sipush (v := (150 : Int32)) hx hb dX4_append_11 (by decide) ?_
  refine lv_icmp_lt (tgt := 18) hx hb dX4_append_14 (by decide) (fun c2 => ?_) (fun c2 => ?_)
  · replace h := s_yes c2 h
    refine lv_aload_n hx hb dX4_append_18 rfl (lv_at hl 0 rfl) ?_
    refine s_get (C := RX4) (T := TX4) (N := 6) hx hb hts inX4 hown hK hS 0 rfl rfl 0 (by decide) (hts (.fieldLink RX4 9 "InnTurned$Script" "bytes" "[B") (List.mem_of_getElem? (i := 2) rfl)) rfl rfl dX4_append_19 ?_
    refine lv_aload_n hx hb dX4_append_22 rfl (lv_at hl 0 rfl) ?_
    refine s_get (C := RX4) (T := TX4) (N := 6) hx hb hts inX4 hown hK hS 0 rfl rfl 1 (by decide) (hts (.fieldLink RX4 15 "InnTurned$Script" "size" "I") (List.mem_of_getElem? (i := 1) rfl)) rfl rfl dX4_append_23 ?_
    refine lv_iload_n hx hb dX4_append_26 rfl (lv_at hl 1 rfl) ?_
    refine lv_i2b (v := ((Int32.toInt8 p1).toInt32)) hx hb dX4_append_27 rfl ?_
    obtain ⟨g3, h⟩ := s_guard h
    refine s_bast (ws' := (wd_X4_append cI cB cZ a_this a_bytes (upd bytes (Int32.toNatClampNeg size) (vp_nar .byte ((Int32.toInt8 p1).toInt32))) size next start token number)) hx hb hK hS 1 rfl rfl g3 rfl dX4_append_28 (fun H locs hS => ?_)
    refine lv_aload_n hx hb dX4_append_29 rfl (lv_at hl 0 rfl) ?_
    refine lv_dup hx hb dX4_append_30 rfl ?_
    refine s_get (C := RX4) (T := TX4) (N := 6) hx hb hts inX4 hown hK hS 0 rfl rfl 1 (by decide) (hts (.fieldLink RX4 15 "InnTurned$Script" "size" "I") (List.mem_of_getElem? (i := 1) rfl)) rfl rfl dX4_append_31 ?_
    refine lv_iconst (v := (1 : Int32)) hx hb dX4_append_34 (by decide) ?_
    refine lv_iadd hx hb dX4_append_35 ?_
    refine s_put (ws' := (wd_X4_append cI cB cZ a_this a_bytes (upd bytes (Int32.toNatClampNeg size) (vp_nar .byte ((Int32.toInt8 p1).toInt32))) (size + (1 : Int32)) next start token number)) (C := RX4) (T := TX4) (N := 6) hx hb hts inX4 tyX4 tyX4_ok nmX4 hown hK hS 0 rfl rfl 1 (by decide) (hts (.fieldLink RX4 15 "InnTurned$Script" "size" "I") (List.mem_of_getElem? (i := 1) rfl)) rfl rfl rfl rfl (Nat.le_of_ble_eq_true rfl) rfl dX4_append_36 (fun H locs hS => ?_)
    obtain rfl := Option.some.inj h
    exact hend _ _ _ _ dX4_append_39 hS
  replace h := s_no c2 h
  obtain rfl := Option.some.inj h
  exact hend _ _ _ _ dX4_append_17 hS

-- InnTurned$Script.rewind()V
def wd_X4_rewind (cI cB cZ : ClassId) (a_this : Nat) (a_bytes : Nat)  (size : Int32) (next : Int32) (start : Int32) (token : Int32) (number : Int32) : va_W := [(a_this, .inr (2, [.ref a_bytes, .int size, .int next, .int start, .int token, .int number]))]
abbrev rm_X4_rewind : Room := { frames := 0, cells := 0, slots := 0, locals := 0 }
set_option maxRecDepth 20000 in
theorem inX4_X4_rewind : ∀ w ∈ u_ws RX4 TX4 6, w ∈ wsX4_rewind := by decide +kernel
def f_X4_rewind   (next : Int32) : Option (Int32) := some ((0 : Int32))
set_option maxHeartbeats 4000000 in
set_option maxRecDepth 100000 in
theorem c_X4_rewind (l : Launch) (D : va_G) (cI cB cZ : ClassId) (a_this : Nat) (a_bytes : Nat) (size : Int32) (next : Int32) (start : Int32) (token : Int32) (number : Int32) (rv : Int32) (sz : Nat) (hf : f_X4_rewind next = some rv) : Met l yX4_rewind wsX4_rewind rm_X4_rewind (sPc D vwCl (s_tys cI cB cZ) [.ref a_this] (wd_X4_rewind cI cB cZ a_this a_bytes size next start token number) sz) (sQv D vwCl (wd_X4_rewind cI cB cZ a_this a_bytes size next start token number) (wd_X4_rewind cI cB cZ a_this a_bytes size rv start token number) sz) 0 0 (va_A (wd_X4_rewind cI cB cZ a_this a_bytes size next start token number) sz) := by
  refine s_enter_v (cc := cX4_rewind) (nL := 1) (by decide) rfl (Nat.le_of_ble_eq_true rfl) ?_
  intro p e s m args below meth c A Q C0 hend ls hl hS
  have h := hf
  clear hf
  replace hl : lv_has ls 1 [(0, .ref a_this)] := hl
  unfold f_X4_rewind at h
  obtain ⟨hx, hb, hml, hown, hts, hK, hA⟩ := id C0
  have inX4 : ∀ w ∈ u_ws RX4 TX4 6, w ∈ wsX4_rewind := inX4_X4_rewind
  refine lv_aload_n hx hb dX4_rewind_0 rfl (lv_at hl 0 rfl) ?_
  refine lv_iconst (v := (0 : Int32)) hx hb dX4_rewind_1 (by decide) ?_
  refine s_put (ws' := (wd_X4_rewind cI cB cZ a_this a_bytes size (0 : Int32) start token number)) (C := RX4) (T := TX4) (N := 6) hx hb hts inX4 tyX4 tyX4_ok nmX4 hown hK hS 0 rfl rfl 2 (by decide) (hts (.fieldLink RX4 19 "InnTurned$Script" "next" "I") (List.mem_of_getElem? (i := 1) rfl)) rfl rfl rfl rfl (Nat.le_of_ble_eq_true rfl) rfl dX4_rewind_2 (fun H locs hS => ?_)
  obtain rfl := Option.some.inj h
  exact hend _ _ _ _ dX4_rewind_5 hS

-- InnTurned$Script.at(I)I
def wd_X4_at (cI cB cZ : ClassId) (a_this : Nat) (a_bytes : Nat)  (bytes : (Nat → Int32)) (size : Int32) (next : Int32) (start : Int32) (token : Int32) (number : Int32) : va_W := [(a_this, .inr (2, [.ref a_bytes, .int size, .int next, .int start, .int token, .int number])), (a_bytes, .inl (cB, 150, .inl bytes))]
abbrev rm_X4_at : Room := { frames := 0, cells := 0, slots := 0, locals := 0 }
set_option maxRecDepth 20000 in
theorem inX4_X4_at : ∀ w ∈ u_ws RX4 TX4 6, w ∈ wsX4_at := by decide +kernel
def f_X4_at  (bytes : (Nat → Int32)) (size : Int32)  (p1 : Int32) : Option (Int32) := (if p1 < 0 then some ((-1 : Int32)) else (if size ≤ p1 then some ((-1 : Int32)) else (if (150 : Int32) ≤ p1 then some ((-1 : Int32)) else (if ¬ (p1 < 0 ∨ 150 ≤ (Int32.toNatClampNeg p1)) then some ((bytes (Int32.toNatClampNeg p1))) else none))))
set_option maxHeartbeats 4000000 in
set_option maxRecDepth 100000 in
theorem c_X4_at (l : Launch) (D : va_G) (cI cB cZ : ClassId) (a_this : Nat) (a_bytes : Nat) (bytes : (Nat → Int32)) (size : Int32) (next : Int32) (start : Int32) (token : Int32) (number : Int32) (p1 : Int32) (rv : Int32) (sz : Nat) (hf : f_X4_at bytes size p1 = some rv) : Met l yX4_at wsX4_at rm_X4_at (sPc D vwCl (s_tys cI cB cZ) [.ref a_this, .int p1] (wd_X4_at cI cB cZ a_this a_bytes bytes size next start token number) sz) (sQi D vwCl (wd_X4_at cI cB cZ a_this a_bytes bytes size next start token number) (wd_X4_at cI cB cZ a_this a_bytes bytes size next start token number) sz rv) 0 0 (va_A (wd_X4_at cI cB cZ a_this a_bytes bytes size next start token number) sz) := by
  refine s_enter_n (cc := cX4_at) (nL := 2) (r := rv) (by decide) rfl (Nat.le_of_ble_eq_true rfl) ?_
  intro p e s m args below meth c A Q C0 hend ls hl hS
  have h := hf
  clear hf
  replace hl : lv_has ls 2 [(0, .ref a_this), (1, .int p1)] := hl
  unfold f_X4_at at h
  obtain ⟨hx, hb, hml, hown, hts, hK, hA⟩ := id C0
  have inX4 : ∀ w ∈ u_ws RX4 TX4 6, w ∈ wsX4_at := inX4_X4_at
  refine lv_iload_n hx hb dX4_at_0 rfl (lv_at hl 1 rfl) ?_
  refine lv_if_lt (tgt := 28) hx hb dX4_at_1 (by decide) (fun c1 => ?_) (fun c1 => ?_)
  · replace h := s_yes c1 h
    refine lv_iconst (v := (-1 : Int32)) hx hb dX4_at_28 (by decide) ?_
    obtain rfl := Option.some.inj h
    exact hend _ _ _ _ dX4_at_29 hS
  replace h := s_no c1 h
  refine lv_iload_n hx hb dX4_at_4 rfl (lv_at hl 1 rfl) ?_
  refine lv_aload_n hx hb dX4_at_5 rfl (lv_at hl 0 rfl) ?_
  refine s_get (C := RX4) (T := TX4) (N := 6) hx hb hts inX4 hown hK hS 0 rfl rfl 1 (by decide) (hts (.fieldLink RX4 15 "InnTurned$Script" "size" "I") (List.mem_of_getElem? (i := 1) rfl)) rfl rfl dX4_at_6 ?_
  refine lv_icmp_ge (tgt := 28) hx hb dX4_at_9 (by decide) (fun c2 => ?_) (fun c2 => ?_)
  · replace h := s_yes c2 h
    refine lv_iconst (v := (-1 : Int32)) hx hb dX4_at_28 (by decide) ?_
    obtain rfl := Option.some.inj h
    exact hend _ _ _ _ dX4_at_29 hS
  replace h := s_no c2 h
  refine lv_iload_n hx hb dX4_at_12 rfl (lv_at hl 1 rfl) ?_
  refine lv_sipush (v := (150 : Int32)) hx hb dX4_at_13 (by decide) ?_
  refine lv_icmp_ge (tgt := 28) hx hb dX4_at_16 (by decide) (fun c3 => ?_) (fun c3 => ?_)
  · replace h := s_yes c3 h
    refine lv_iconst (v := (-1 : Int32)) hx hb dX4_at_28 (by decide) ?_
    obtain rfl := Option.some.inj h
    exact hend _ _ _ _ dX4_at_29 hS
  replace h := s_no c3 h
  refine lv_aload_n hx hb dX4_at_19 rfl (lv_at hl 0 rfl) ?_
  refine s_get (C := RX4) (T := TX4) (N := 6) hx hb hts inX4 hown hK hS 0 rfl rfl 0 (by decide) (hts (.fieldLink RX4 9 "InnTurned$Script" "bytes" "[B") (List.mem_of_getElem? (i := 2) rfl)) rfl rfl dX4_at_20 ?_
  refine lv_iload_n hx hb dX4_at_23 rfl (lv_at hl 1 rfl) ?_
  obtain ⟨g4, h⟩ := s_guard h
  refine s_bald hx hb hK hS 1 rfl rfl g4 dX4_at_24 ?_
  refine lv_goto (tgt := 29) hx hb dX4_at_25 (by decide) ?_
  obtain rfl := Option.some.inj h
  exact hend _ _ _ _ dX4_at_29 hS

-- InnTurned$Script.sort(I)I
abbrev rm_X4_sort : Room := { frames := 0, cells := 0, slots := 0, locals := 0 }
def f_X4_sort_b35    (l0 : Int32) : Option (Int32) := (if l0 = (59 : Int32) then some ((3 : Int32)) else some ((4 : Int32)))
set_option maxHeartbeats 4000000 in
set_option maxRecDepth 100000 in
theorem w_X4_sort_b35 {p : Program} {l : Launch} {e : Env} {s : State} {m : MethodId} {args : Array Value} {below : List Frame} {meth : Method} {c : Code} {A : Nat → Prop} {Q : State → Prop} {D : va_G} {cI cB cZ : ClassId} (C0 : Cx p s m args c cX4_sort 1 RX4 wsX4_sort D (s_tys cI cB cZ) A) {rv : Int32} (hend : ∀ (pc : Nat) (H : Heap) (locs : List Loc) (ls : Array Slot), decode cX4_sort pc = .ok (.ireturn, 1) → sS D vwCl A s.heap ([] : va_W) H locs → W p l e rm_X4_sort s m args below meth c H locs 0 0 Q (F0 m pc ls [.int rv])) : ∀  (l0 : Int32) (H : Heap) (locs : List Loc) (ls : Array Slot), f_X4_sort_b35  l0 = some rv → sS D vwCl A s.heap ([] : va_W) H locs → lv_has ls 1 [(0, .int l0)] → W p l e rm_X4_sort s m args below meth c H locs 0 0 Q (F0 m 35 ls []) := by
  obtain ⟨hx, hb, hml, hown, hts, hK, hA⟩ := id C0
  intro l0 H locs ls h hS hl
  unfold f_X4_sort_b35 at h
  refine lv_iload_n hx hb dX4_sort_35 rfl (lv_at hl 0 rfl) ?_
  refine lv_bipush (v := (59 : Int32)) hx hb dX4_sort_36 (by decide) ?_
  refine lv_icmp_ne (tgt := 45) hx hb dX4_sort_38 (by decide) (fun c1 => ?_) (fun c1 => ?_)
  · replace h := s_no c1 h
    refine lv_iconst (v := (4 : Int32)) hx hb dX4_sort_45 (by decide) ?_
    obtain rfl := Option.some.inj h
    exact hend _ _ _ _ dX4_sort_46 hS
  replace h := s_yes c1 h
  refine lv_iconst (v := (3 : Int32)) hx hb dX4_sort_41 (by decide) ?_
  refine lv_goto (tgt := 46) hx hb dX4_sort_42 (by decide) ?_
  obtain rfl := Option.some.inj h
  exact hend _ _ _ _ dX4_sort_46 hS
def f_X4_sort_b21    (l0 : Int32) : Option (Int32) := (if l0 < (48 : Int32) then f_X4_sort_b35   l0 else (if (57 : Int32) < l0 then f_X4_sort_b35   l0 else some ((2 : Int32))))
set_option maxHeartbeats 4000000 in
set_option maxRecDepth 100000 in
theorem w_X4_sort_b21 {p : Program} {l : Launch} {e : Env} {s : State} {m : MethodId} {args : Array Value} {below : List Frame} {meth : Method} {c : Code} {A : Nat → Prop} {Q : State → Prop} {D : va_G} {cI cB cZ : ClassId} (C0 : Cx p s m args c cX4_sort 1 RX4 wsX4_sort D (s_tys cI cB cZ) A) {rv : Int32} (hend : ∀ (pc : Nat) (H : Heap) (locs : List Loc) (ls : Array Slot), decode cX4_sort pc = .ok (.ireturn, 1) → sS D vwCl A s.heap ([] : va_W) H locs → W p l e rm_X4_sort s m args below meth c H locs 0 0 Q (F0 m pc ls [.int rv])) : ∀  (l0 : Int32) (H : Heap) (locs : List Loc) (ls : Array Slot), f_X4_sort_b21  l0 = some rv → sS D vwCl A s.heap ([] : va_W) H locs → lv_has ls 1 [(0, .int l0)] → W p l e rm_X4_sort s m args below meth c H locs 0 0 Q (F0 m 21 ls []) := by
  obtain ⟨hx, hb, hml, hown, hts, hK, hA⟩ := id C0
  intro l0 H locs ls h hS hl
  unfold f_X4_sort_b21 at h
  refine lv_iload_n hx hb dX4_sort_21 rfl (lv_at hl 0 rfl) ?_
  refine lv_bipush (v := (48 : Int32)) hx hb dX4_sort_22 (by decide) ?_
  refine lv_icmp_lt (tgt := 35) hx hb dX4_sort_24 (by decide) (fun c2 => ?_) (fun c2 => ?_)
  · replace h := s_yes c2 h
    exact w_X4_sort_b35 C0 hend  l0 _ _ _ h hS (lv_sub hl [0] rfl)
  replace h := s_no c2 h
  refine lv_iload_n hx hb dX4_sort_27 rfl (lv_at hl 0 rfl) ?_
  refine lv_bipush (v := (57 : Int32)) hx hb dX4_sort_28 (by decide) ?_
  refine lv_icmp_gt (tgt := 35) hx hb dX4_sort_30 (by decide) (fun c3 => ?_) (fun c3 => ?_)
  · replace h := s_yes c3 h
    exact w_X4_sort_b35 C0 hend  l0 _ _ _ h hS (lv_sub hl [0] rfl)
  replace h := s_no c3 h
  refine lv_iconst (v := (2 : Int32)) hx hb dX4_sort_33 (by decide) ?_
  obtain rfl := Option.some.inj h
  exact hend _ _ _ _ dX4_sort_34 hS
def f_X4_sort    (p1 : Int32) : Option (Int32) := (if p1 = (-1 : Int32) then some ((0 : Int32)) else (if p1 < (97 : Int32) then f_X4_sort_b21   p1 else (if (122 : Int32) < p1 then f_X4_sort_b21   p1 else some ((1 : Int32)))))
set_option maxHeartbeats 4000000 in
set_option maxRecDepth 100000 in
theorem c_X4_sort (l : Launch) (D : va_G) (cI cB cZ : ClassId) (p1 : Int32) (rv : Int32) (sz : Nat) (hf : f_X4_sort p1 = some rv) : Met l yX4_sort wsX4_sort rm_X4_sort (sPc D vwCl (s_tys cI cB cZ) [.int p1] ([] : va_W) sz) (sQi D vwCl ([] : va_W) ([] : va_W) sz rv) 0 0 (va_A ([] : va_W) sz) := by
  refine s_enter_n (cc := cX4_sort) (nL := 1) (r := rv) (by decide) rfl (Nat.le_of_ble_eq_true rfl) ?_
  intro p e s m args below meth c A Q C0 hend ls hl hS
  have h := hf
  clear hf
  replace hl : lv_has ls 1 [(0, .int p1)] := hl
  unfold f_X4_sort at h
  obtain ⟨hx, hb, hml, hown, hts, hK, hA⟩ := id C0
  refine lv_iload_n hx hb dX4_sort_0 rfl (lv_at hl 0 rfl) ?_
  refine lv_iconst (v := (-1 : Int32)) hx hb dX4_sort_1 (by decide) ?_
  refine lv_icmp_ne (tgt := 7) hx hb dX4_sort_2 (by decide) (fun c4 => ?_) (fun c4 => ?_)
  · replace h := s_no c4 h
    refine lv_iload_n hx hb dX4_sort_7 rfl (lv_at hl 0 rfl) ?_
    refine lv_bipush (v := (97 : Int32)) hx hb dX4_sort_8 (by decide) ?_
    refine lv_icmp_lt (tgt := 21) hx hb dX4_sort_10 (by decide) (fun c5 => ?_) (fun c5 => ?_)
    · replace h := s_yes c5 h
      exact w_X4_sort_b21 C0 hend  p1 _ _ _ h hS (lv_sub hl [0] rfl)
    replace h := s_no c5 h
    refine lv_iload_n hx hb dX4_sort_13 rfl (lv_at hl 0 rfl) ?_
    refine lv_bipush (v := (122 : Int32)) hx hb dX4_sort_14 (by decide) ?_
    refine lv_icmp_gt (tgt := 21) hx hb dX4_sort_16 (by decide) (fun c6 => ?_) (fun c6 => ?_)
    · replace h := s_yes c6 h
      exact w_X4_sort_b21 C0 hend  p1 _ _ _ h hS (lv_sub hl [0] rfl)
    replace h := s_no c6 h
    refine lv_iconst (v := (1 : Int32)) hx hb dX4_sort_19 (by decide) ?_
    obtain rfl := Option.some.inj h
    exact hend _ _ _ _ dX4_sort_20 hS
  replace h := s_yes c4 h
  refine lv_iconst (v := (0 : Int32)) hx hb dX4_sort_5 (by decide) ?_
  obtain rfl := Option.some.inj h
  exact hend _ _ _ _ dX4_sort_6 hS

-- InnTurned$Script.takeNumber()V
def wd_X4_takeNumber (cI cB cZ : ClassId) (a_this : Nat) (a_bytes : Nat)  (bytes : (Nat → Int32)) (size : Int32) (next : Int32) (start : Int32) (token : Int32) (number : Int32) : va_W := [(a_this, .inr (2, [.ref a_bytes, .int size, .int next, .int start, .int token, .int number])), (a_bytes, .inl (cB, 150, .inl bytes))]
abbrev rm_X4_takeNumber : Room := { frames := 1, cells := 0, slots := 0, locals := 21 }
set_option maxRecDepth 20000 in
theorem inX4_X4_takeNumber : ∀ w ∈ u_ws RX4 TX4 6, w ∈ wsX4_takeNumber := by decide +kernel
def f_X4_takeNumber_b20  (bytes : (Nat → Int32)) (size : Int32) (next : Int32) (start : Int32) (token : Int32) (number : Int32) (l1 : Int32) : Option (Int32 × Int32) := ((f_X4_at bytes size start).bind fun q1 => (if l1 = (2 : Int32) then ((f_X4_at bytes size (start + (1 : Int32))).bind fun q3 => some (token, ((((10 : Int32) * (q1 - (48 : Int32))) + q3) - (48 : Int32)))) else some (token, (q1 - (48 : Int32)))))
set_option maxHeartbeats 4000000 in
set_option maxRecDepth 100000 in
theorem w_X4_takeNumber_b20 {p : Program} {l : Launch} {e : Env} {s : State} {m : MethodId} {args : Array Value} {below : List Frame} {meth : Method} {c : Code} {A : Nat → Prop} {Q : State → Prop} {D : va_G} {cI cB cZ : ClassId} {a_this a_bytes : Nat} {bytes : (Nat → Int32)} {size : Int32} {next : Int32} {start : Int32} (C0 : Cx p s m args c cX4_takeNumber 2 RX4 wsX4_takeNumber D (s_tys cI cB cZ) A) {rv : Int32 × Int32} (hend : ∀ (pc : Nat) (H : Heap) (locs : List Loc) (ls : Array Slot), decode cX4_takeNumber pc = .ok (.return_, 1) → sS D vwCl A s.heap (wd_X4_takeNumber cI cB cZ a_this a_bytes bytes size next start rv.1 rv.2) H locs → W p l e rm_X4_takeNumber s m args below meth c H locs 0 0 Q (F0 m pc ls [])) : ∀ (token : Int32) (number : Int32) (l1 : Int32) (H : Heap) (locs : List Loc) (ls : Array Slot), f_X4_takeNumber_b20 bytes size next start token number l1 = some rv → sS D vwCl A s.heap (wd_X4_takeNumber cI cB cZ a_this a_bytes bytes size next start token number) H locs → lv_has ls 2 [(0, .ref a_this), (1, .int l1)] → W p l e rm_X4_takeNumber s m args below meth c H locs 0 0 Q (F0 m 20 ls []) := by
  obtain ⟨hx, hb, hml, hown, hts, hK, hA⟩ := id C0
  have inX4 : ∀ w ∈ u_ws RX4 TX4 6, w ∈ wsX4_takeNumber := inX4_X4_takeNumber
  intro token number l1 H locs ls h hS hl
  unfold f_X4_takeNumber_b20 at h
  refine lv_aload_n hx hb dX4_takeNumber_20 rfl (lv_at hl 0 rfl) ?_
  refine lv_aload_n hx hb dX4_takeNumber_21 rfl (lv_at hl 0 rfl) ?_
  refine lv_aload_n hx hb dX4_takeNumber_22 rfl (lv_at hl 0 rfl) ?_
  refine s_get (C := RX4) (T := TX4) (N := 6) hx hb hts inX4 hown hK hS 0 rfl rfl 3 (by decide) (hts (.fieldLink RX4 26 "InnTurned$Script" "start" "I") (List.mem_of_getElem? (i := 2) rfl)) rfl rfl dX4_takeNumber_23 ?_
  obtain ⟨q1, hq1, h⟩ := s_bind h
  refine u_calliV (r := q1) (As := [.int start]) (rest := [.ref a_this]) (wc := (wd_X4_at cI cB cZ a_this a_bytes bytes size next start token number)) hx hb hml hown hts hK hA hl hS (c_X4_at l D cI cB cZ a_this a_bytes bytes size next start token number start _ _ hq1) (cwV 1 hts gX4_takeNumber_X4_at rfl rfl rfl (by decide +kernel) ⟨Nat.le_of_ble_eq_true rfl, Nat.le_of_ble_eq_true rfl⟩) 0 rfl rfl [0, 1] rfl rfl rfl rfl (Nat.le_of_ble_eq_true rfl) dX4_takeNumber_26 (fun H locs hS => ?_)
  refine lv_bipush (v := (48 : Int32)) hx hb dX4_takeNumber_29 (by decide) ?_
  refine lv_isub hx hb dX4_takeNumber_31 ?_
  refine s_put (ws' := (wd_X4_takeNumber cI cB cZ a_this a_bytes bytes size next start token (q1 - (48 : Int32)))) (C := RX4) (T := TX4) (N := 6) hx hb hts inX4 tyX4 tyX4_ok nmX4 hown hK hS 0 rfl rfl 5 (by decide) (hts (.fieldLink RX4 48 "InnTurned$Script" "number" "I") (List.mem_of_getElem? (i := 4) rfl)) rfl rfl rfl rfl (Nat.le_of_ble_eq_true rfl) rfl dX4_takeNumber_32 (fun H locs hS => ?_)
  refine lv_iload_n hx hb dX4_takeNumber_35 rfl (lv_at hl 1 rfl) ?_
  refine lv_iconst (v := (2 : Int32)) hx hb dX4_takeNumber_36 (by decide) ?_
  refine lv_icmp_ne (tgt := 65) hx hb dX4_takeNumber_37 (by decide) (fun c2 => ?_) (fun c2 => ?_)
  · replace h := s_no c2 h
    obtain rfl := Option.some.inj h
    exact hend _ _ _ _ dX4_takeNumber_65 hS
  replace h := s_yes c2 h
  refine lv_aload_n hx hb dX4_takeNumber_40 rfl (lv_at hl 0 rfl) ?_
  refine lv_bipush (v := (10 : Int32)) hx hb dX4_takeNumber_41 (by decide) ?_
  refine lv_aload_n hx hb dX4_takeNumber_43 rfl (lv_at hl 0 rfl) ?_
  refine s_get (C := RX4) (T := TX4) (N := 6) hx hb hts inX4 hown hK hS 0 rfl rfl 5 (by decide) (hts (.fieldLink RX4 48 "InnTurned$Script" "number" "I") (List.mem_of_getElem? (i := 4) rfl)) rfl rfl dX4_takeNumber_44 ?_
  refine lv_imul hx hb dX4_takeNumber_47 ?_
  refine lv_aload_n hx hb dX4_takeNumber_48 rfl (lv_at hl 0 rfl) ?_
  refine lv_aload_n hx hb dX4_takeNumber_49 rfl (lv_at hl 0 rfl) ?_
  refine s_get (C := RX4) (T := TX4) (N := 6) hx hb hts inX4 hown hK hS 0 rfl rfl 3 (by decide) (hts (.fieldLink RX4 26 "InnTurned$Script" "start" "I") (List.mem_of_getElem? (i := 2) rfl)) rfl rfl dX4_takeNumber_50 ?_
  refine lv_iconst (v := (1 : Int32)) hx hb dX4_takeNumber_53 (by decide) ?_
  refine lv_iadd hx hb dX4_takeNumber_54 ?_
  obtain ⟨q3, hq3, h⟩ := s_bind h
  refine u_calliV (r := q3) (As := [.int (start + (1 : Int32))]) (rest := [.int ((10 : Int32) * (q1 - (48 : Int32))), .ref a_this]) (wc := (wd_X4_at cI cB cZ a_this a_bytes bytes size next start token (q1 - (48 : Int32)))) hx hb hml hown hts hK hA hl hS (c_X4_at l D cI cB cZ a_this a_bytes bytes size next start token (q1 - (48 : Int32)) (start + (1 : Int32)) _ _ hq3) (cwV 1 hts gX4_takeNumber_X4_at rfl rfl rfl (by decide +kernel) ⟨Nat.le_of_ble_eq_true rfl, Nat.le_of_ble_eq_true rfl⟩) 0 rfl rfl [0, 1] rfl rfl rfl rfl (Nat.le_of_ble_eq_true rfl) dX4_takeNumber_55 (fun H locs hS => ?_)
  refine lv_iadd hx hb dX4_takeNumber_58 ?_
  refine lv_bipush (v := (48 : Int32)) hx hb dX4_takeNumber_59 (by decide) ?_
  refine lv_isub hx hb dX4_takeNumber_61 ?_
  refine s_put (ws' := (wd_X4_takeNumber cI cB cZ a_this a_bytes bytes size next start token ((((10 : Int32) * (q1 - (48 : Int32))) + q3) - (48 : Int32)))) (C := RX4) (T := TX4) (N := 6) hx hb hts inX4 tyX4 tyX4_ok nmX4 hown hK hS 0 rfl rfl 5 (by decide) (hts (.fieldLink RX4 48 "InnTurned$Script" "number" "I") (List.mem_of_getElem? (i := 4) rfl)) rfl rfl rfl rfl (Nat.le_of_ble_eq_true rfl) rfl dX4_takeNumber_62 (fun H locs hS => ?_)
  obtain rfl := Option.some.inj h
  exact hend _ _ _ _ dX4_takeNumber_65 hS
def f_X4_takeNumber  (bytes : (Nat → Int32)) (size : Int32) (next : Int32) (start : Int32) (token : Int32) (number : Int32) : Option (Int32 × Int32) := (if (next - start) ≤ (2 : Int32) then f_X4_takeNumber_b20  bytes size next start token number (next - start) else f_X4_takeNumber_b20  bytes size next start (4 : Int32) number (next - start))
set_option maxHeartbeats 4000000 in
set_option maxRecDepth 100000 in
theorem c_X4_takeNumber (l : Launch) (D : va_G) (cI cB cZ : ClassId) (a_this : Nat) (a_bytes : Nat) (bytes : (Nat → Int32)) (size : Int32) (next : Int32) (start : Int32) (token : Int32) (number : Int32) (rv : Int32 × Int32) (sz : Nat) (hf : f_X4_takeNumber bytes size next start token number = some rv) : Met l yX4_takeNumber wsX4_takeNumber rm_X4_takeNumber (sPc D vwCl (s_tys cI cB cZ) [.ref a_this] (wd_X4_takeNumber cI cB cZ a_this a_bytes bytes size next start token number) sz) (sQv D vwCl (wd_X4_takeNumber cI cB cZ a_this a_bytes bytes size next start token number) (wd_X4_takeNumber cI cB cZ a_this a_bytes bytes size next start rv.1 rv.2) sz) 0 0 (va_A (wd_X4_takeNumber cI cB cZ a_this a_bytes bytes size next start token number) sz) := by
  refine s_enter_v (cc := cX4_takeNumber) (nL := 2) (by decide) rfl (Nat.le_of_ble_eq_true rfl) ?_
  intro p e s m args below meth c A Q C0 hend ls hl hS
  have h := hf
  clear hf
  replace hl : lv_has ls 2 [(0, .ref a_this)] := hl
  unfold f_X4_takeNumber at h
  obtain ⟨hx, hb, hml, hown, hts, hK, hA⟩ := id C0
  have inX4 : ∀ w ∈ u_ws RX4 TX4 6, w ∈ wsX4_takeNumber := inX4_X4_takeNumber
  refine lv_aload_n hx hb dX4_takeNumber_0 rfl (lv_at hl 0 rfl) ?_
  refine s_get (C := RX4) (T := TX4) (N := 6) hx hb hts inX4 hown hK hS 0 rfl rfl 2 (by decide) (hts (.fieldLink RX4 19 "InnTurned$Script" "next" "I") (List.mem_of_getElem? (i := 1) rfl)) rfl rfl dX4_takeNumber_1 ?_
  refine lv_aload_n hx hb dX4_takeNumber_4 rfl (lv_at hl 0 rfl) ?_
  refine s_get (C := RX4) (T := TX4) (N := 6) hx hb hts inX4 hown hK hS 0 rfl rfl 3 (by decide) (hts (.fieldLink RX4 26 "InnTurned$Script" "start" "I") (List.mem_of_getElem? (i := 2) rfl)) rfl rfl dX4_takeNumber_5 ?_
  refine lv_isub hx hb dX4_takeNumber_8 ?_
  refine lv_istore_n (lv' := [(1, .int (next - start)), (0, .ref a_this)]) hx hb dX4_takeNumber_9 rfl hl (by decide) rfl (fun ls hl => ?_)
  refine lv_iload_n hx hb dX4_takeNumber_10 rfl (lv_at hl 0 rfl) ?_
  refine lv_iconst (v := (2 : Int32)) hx hb dX4_takeNumber_11 (by decide) ?_
  refine lv_icmp_le (tgt := 20) hx hb dX4_takeNumber_12 (by decide) (fun c4 => ?_) (fun c4 => ?_)
  · replace h := s_yes c4 h
    exact w_X4_takeNumber_b20 C0 hend  token number (next - start) _ _ _ h hS (lv_sub hl [1, 0] rfl)
  replace h := s_no c4 h
  refine lv_aload_n hx hb dX4_takeNumber_15 rfl (lv_at hl 1 rfl) ?_
  refine lv_iconst (v := (4 : Int32)) hx hb dX4_takeNumber_16 (by decide) ?_
  refine s_put (ws' := (wd_X4_takeNumber cI cB cZ a_this a_bytes bytes size next start (4 : Int32) number)) (C := RX4) (T := TX4) (N := 6) hx hb hts inX4 tyX4 tyX4_ok nmX4 hown hK hS 0 rfl rfl 4 (by decide) (hts (.fieldLink RX4 32 "InnTurned$Script" "token" "I") (List.mem_of_getElem? (i := 3) rfl)) rfl rfl rfl rfl (Nat.le_of_ble_eq_true rfl) rfl dX4_takeNumber_17 (fun H locs hS => ?_)
  exact w_X4_takeNumber_b20 C0 hend  (4 : Int32) number (next - start) _ _ _ h hS (lv_sub hl [1, 0] rfl)

-- InnTurned$Script.advance()V
def wd_X4_advance (cI cB cZ : ClassId) (a_this : Nat) (a_bytes : Nat)  (bytes : (Nat → Int32)) (size : Int32) (next : Int32) (start : Int32) (token : Int32) (number : Int32) : va_W := [(a_this, .inr (2, [.ref a_bytes, .int size, .int next, .int start, .int token, .int number])), (a_bytes, .inl (cB, 150, .inl bytes))]
abbrev rm_X4_advance : Room := { frames := 2, cells := 0, slots := 0, locals := 42 }
set_option maxRecDepth 20000 in
theorem inX4_X4_advance : ∀ w ∈ u_ws RX4 TX4 6, w ∈ wsX4_advance := by decide +kernel
def f_X4_advance_b137  (bytes : (Nat → Int32)) (size : Int32) (next : Int32) (start : Int32) (token : Int32) (number : Int32) : Option (Int32 × Int32 × Int32 × Int32) := (if token = (2 : Int32) then ((f_X4_takeNumber bytes size next start token number).bind fun q2 => some (next, start, q2.1, q2.2)) else some (next, start, token, number))
set_option maxHeartbeats 4000000 in
set_option maxRecDepth 100000 in
theorem w_X4_advance_b137 {p : Program} {l : Launch} {e : Env} {s : State} {m : MethodId} {args : Array Value} {below : List Frame} {meth : Method} {c : Code} {A : Nat → Prop} {Q : State → Prop} {D : va_G} {cI cB cZ : ClassId} {a_this a_bytes : Nat} {bytes : (Nat → Int32)} {size : Int32} (C0 : Cx p s m args c cX4_advance 1 RX4 wsX4_advance D (s_tys cI cB cZ) A) {rv : Int32 × Int32 × Int32 × Int32} (hend : ∀ (pc : Nat) (H : Heap) (locs : List Loc) (ls : Array Slot), decode cX4_advance pc = .ok (.return_, 1) → sS D vwCl A s.heap (wd_X4_advance cI cB cZ a_this a_bytes bytes size rv.1 rv.2.1 rv.2.2.1 rv.2.2.2) H locs → W p l e rm_X4_advance s m args below meth c H locs 0 0 Q (F0 m pc ls [])) : ∀ (next : Int32) (start : Int32) (token : Int32) (number : Int32) (H : Heap) (locs : List Loc) (ls : Array Slot), f_X4_advance_b137 bytes size next start token number = some rv → sS D vwCl A s.heap (wd_X4_advance cI cB cZ a_this a_bytes bytes size next start token number) H locs → lv_has ls 1 [(0, .ref a_this)] → W p l e rm_X4_advance s m args below meth c H locs 0 0 Q (F0 m 137 ls []) := by
  obtain ⟨hx, hb, hml, hown, hts, hK, hA⟩ := id C0
  have inX4 : ∀ w ∈ u_ws RX4 TX4 6, w ∈ wsX4_advance := inX4_X4_advance
  intro next start token number H locs ls h hS hl
  unfold f_X4_advance_b137 at h
  refine lv_aload_n hx hb dX4_advance_137 rfl (lv_at hl 0 rfl) ?_
  refine s_get (C := RX4) (T := TX4) (N := 6) hx hb hts inX4 hown hK hS 0 rfl rfl 4 (by decide) (hts (.fieldLink RX4 32 "InnTurned$Script" "token" "I") (List.mem_of_getElem? (i := 4) rfl)) rfl rfl dX4_advance_138 ?_
  refine lv_iconst (v := (2 : Int32)) hx hb dX4_advance_141 (by decide) ?_
  refine lv_icmp_ne (tgt := 149) hx hb dX4_advance_142 (by decide) (fun c1 => ?_) (fun c1 => ?_)
  · replace h := s_no c1 h
    obtain rfl := Option.some.inj h
    exact hend _ _ _ _ dX4_advance_149 hS
  replace h := s_yes c1 h
  refine lv_aload_n hx hb dX4_advance_145 rfl (lv_at hl 0 rfl) ?_
  obtain ⟨q2, hq2, h⟩ := s_bind h
  refine r_callvV (As := []) (rest := []) (wc := (wd_X4_takeNumber cI cB cZ a_this a_bytes bytes size next start token number)) (w1 := (wd_X4_takeNumber cI cB cZ a_this a_bytes bytes size next start q2.1 q2.2)) (ws' := (wd_X4_advance cI cB cZ a_this a_bytes bytes size next start q2.1 q2.2)) hx hb hml hown hts hK hA hl hS (c_X4_takeNumber l D cI cB cZ a_this a_bytes bytes size next start token number _ _ hq2) (cwV 0 hts gX4_advance_X4_takeNumber rfl rfl rfl (by decide +kernel) ⟨Nat.le_of_ble_eq_true rfl, Nat.le_of_ble_eq_true rfl⟩) 0 rfl rfl [0, 1] rfl rfl rfl [.inr 0, .inr 1] rfl rfl rfl rfl (Nat.le_of_ble_eq_true rfl) dX4_advance_146 (fun H locs hS => ?_)
  obtain rfl := Option.some.inj h
  exact hend _ _ _ _ dX4_advance_149 hS
def f_X4_advance_b95  (bytes : (Nat → Int32)) (size : Int32) : Nat → Int32 → Int32 → Int32 → Int32 → Option (Int32 × Int32 × Int32 × Int32)
  | 0, _, _, _, _ => none
  | fu + 1, next, start, token, number => (if size ≤ next then f_X4_advance_b137  bytes size next start token number else ((f_X4_at bytes size next).bind fun q4 => ((f_X4_sort q4).bind fun q5 => (if q5 = token then (f_X4_advance_b95 bytes size fu) (next + (1 : Int32)) start token number else f_X4_advance_b137  bytes size next start token number))))
set_option maxHeartbeats 4000000 in
set_option maxRecDepth 100000 in
theorem w_X4_advance_b95 {p : Program} {l : Launch} {e : Env} {s : State} {m : MethodId} {args : Array Value} {below : List Frame} {meth : Method} {c : Code} {A : Nat → Prop} {Q : State → Prop} {D : va_G} {cI cB cZ : ClassId} {a_this a_bytes : Nat} {bytes : (Nat → Int32)} {size : Int32} (C0 : Cx p s m args c cX4_advance 1 RX4 wsX4_advance D (s_tys cI cB cZ) A) {rv : Int32 × Int32 × Int32 × Int32} (hend : ∀ (pc : Nat) (H : Heap) (locs : List Loc) (ls : Array Slot), decode cX4_advance pc = .ok (.return_, 1) → sS D vwCl A s.heap (wd_X4_advance cI cB cZ a_this a_bytes bytes size rv.1 rv.2.1 rv.2.2.1 rv.2.2.2) H locs → W p l e rm_X4_advance s m args below meth c H locs 0 0 Q (F0 m pc ls [])) : ∀ (fu : Nat) (next : Int32) (start : Int32) (token : Int32) (number : Int32) (H : Heap) (locs : List Loc) (ls : Array Slot), f_X4_advance_b95 bytes size fu next start token number = some rv → sS D vwCl A s.heap (wd_X4_advance cI cB cZ a_this a_bytes bytes size next start token number) H locs → lv_has ls 1 [(0, .ref a_this)] → W p l e rm_X4_advance s m args below meth c H locs 0 0 Q (F0 m 95 ls []) := by
  obtain ⟨hx, hb, hml, hown, hts, hK, hA⟩ := id C0
  have inX4 : ∀ w ∈ u_ws RX4 TX4 6, w ∈ wsX4_advance := inX4_X4_advance
  intro fu
  induction fu with
  | zero => intro next start token number H locs ls h; cases h
  | succ fu ih =>
    intro next start token number H locs ls h hS hl
    rw [f_X4_advance_b95] at h
    refine lv_aload_n hx hb dX4_advance_95 rfl (lv_at hl 0 rfl) ?_
    refine s_get (C := RX4) (T := TX4) (N := 6) hx hb hts inX4 hown hK hS 0 rfl rfl 2 (by decide) (hts (.fieldLink RX4 19 "InnTurned$Script" "next" "I") (List.mem_of_getElem? (i := 1) rfl)) rfl rfl dX4_advance_96 ?_
    refine lv_aload_n hx hb dX4_advance_99 rfl (lv_at hl 0 rfl) ?_
    refine s_get (C := RX4) (T := TX4) (N := 6) hx hb hts inX4 hown hK hS 0 rfl rfl 1 (by decide) (hts (.fieldLink RX4 15 "InnTurned$Script" "size" "I") (List.mem_of_getElem? (i := 2) rfl)) rfl rfl dX4_advance_100 ?_
    refine lv_icmp_ge (tgt := 137) hx hb dX4_advance_103 (by decide) (fun c3 => ?_) (fun c3 => ?_)
    · replace h := s_yes c3 h
      exact w_X4_advance_b137 C0 hend  next start token number _ _ _ h hS (lv_sub hl [0] rfl)
    replace h := s_no c3 h
    refine lv_aload_n hx hb dX4_advance_106 rfl (lv_at hl 0 rfl) ?_
    refine lv_aload_n hx hb dX4_advance_107 rfl (lv_at hl 0 rfl) ?_
    refine s_get (C := RX4) (T := TX4) (N := 6) hx hb hts inX4 hown hK hS 0 rfl rfl 2 (by decide) (hts (.fieldLink RX4 19 "InnTurned$Script" "next" "I") (List.mem_of_getElem? (i := 1) rfl)) rfl rfl dX4_advance_108 ?_
    obtain ⟨q4, hq4, h⟩ := s_bind h
    refine u_calliV (r := q4) (As := [.int next]) (rest := []) (wc := (wd_X4_at cI cB cZ a_this a_bytes bytes size next start token number)) hx hb hml hown hts hK hA hl hS (c_X4_at l D cI cB cZ a_this a_bytes bytes size next start token number next _ _ hq4) (cwV 1 hts gX4_advance_X4_at rfl rfl rfl (by decide +kernel) ⟨Nat.le_of_ble_eq_true rfl, Nat.le_of_ble_eq_true rfl⟩) 0 rfl rfl [0, 1] rfl rfl rfl rfl (Nat.le_of_ble_eq_true rfl) dX4_advance_111 (fun H locs hS => ?_)
    obtain ⟨q5, hq5, h⟩ := s_bind h
    refine u_calliS (r := q5) (As := [.int q4]) (rest := []) (wc := ([] : va_W)) hx hb hml hown hts hK hA hl hS (c_X4_sort l D cI cB cZ q4 _ _ hq5) (va_cwS 1 hts gX4_advance_X4_sort rfl rfl rfl (by decide +kernel) ⟨Nat.le_of_ble_eq_true rfl, Nat.le_of_ble_eq_true rfl⟩) [] rfl rfl rfl rfl (Nat.le_of_ble_eq_true rfl) dX4_advance_114 (fun H locs hS => ?_)
    refine lv_aload_n hx hb dX4_advance_117 rfl (lv_at hl 0 rfl) ?_
    refine s_get (C := RX4) (T := TX4) (N := 6) hx hb hts inX4 hown hK hS 0 rfl rfl 4 (by decide) (hts (.fieldLink RX4 32 "InnTurned$Script" "token" "I") (List.mem_of_getElem? (i := 4) rfl)) rfl rfl dX4_advance_118 ?_
    refine lv_icmp_ne (tgt := 137) hx hb dX4_advance_121 (by decide) (fun c6 => ?_) (fun c6 => ?_)
    · replace h := s_no c6 h
      exact w_X4_advance_b137 C0 hend  next start token number _ _ _ h hS (lv_sub hl [0] rfl)
    replace h := s_yes c6 h
    refine lv_aload_n hx hb dX4_advance_124 rfl (lv_at hl 0 rfl) ?_
    refine lv_dup hx hb dX4_advance_125 rfl ?_
    refine s_get (C := RX4) (T := TX4) (N := 6) hx hb hts inX4 hown hK hS 0 rfl rfl 2 (by decide) (hts (.fieldLink RX4 19 "InnTurned$Script" "next" "I") (List.mem_of_getElem? (i := 1) rfl)) rfl rfl dX4_advance_126 ?_
    refine lv_iconst (v := (1 : Int32)) hx hb dX4_advance_129 (by decide) ?_
    refine lv_iadd hx hb dX4_advance_130 ?_
    refine s_put (ws' := (wd_X4_advance cI cB cZ a_this a_bytes bytes size (next + (1 : Int32)) start token number)) (C := RX4) (T := TX4) (N := 6) hx hb hts inX4 tyX4 tyX4_ok nmX4 hown hK hS 0 rfl rfl 2 (by decide) (hts (.fieldLink RX4 19 "InnTurned$Script" "next" "I") (List.mem_of_getElem? (i := 1) rfl)) rfl rfl rfl rfl (Nat.le_of_ble_eq_true rfl) rfl dX4_advance_131 (fun H locs hS => ?_)
    refine lv_goto (tgt := 95) hx hb dX4_advance_134 (by decide) ?_
    exact ih (next + (1 : Int32)) start token number _ _ _ h hS (lv_sub hl [0] rfl)
def f_X4_advance_b37  (bytes : (Nat → Int32)) (size : Int32) (next : Int32) (start : Int32) (token : Int32) (number : Int32) : Option (Int32 × Int32 × Int32 × Int32) := ((f_X4_at bytes size next).bind fun q7 => ((f_X4_sort q7).bind fun q8 => (if q8 = 0 then some (next, next, q8, number) else (if q8 = (1 : Int32) then f_X4_advance_b95  bytes size s_fuel (next + (1 : Int32)) next q8 number else (if q8 = (2 : Int32) then f_X4_advance_b95  bytes size s_fuel (next + (1 : Int32)) next q8 number else some ((next + (1 : Int32)), next, q8, number))))))
set_option maxHeartbeats 4000000 in
set_option maxRecDepth 100000 in
theorem w_X4_advance_b37 {p : Program} {l : Launch} {e : Env} {s : State} {m : MethodId} {args : Array Value} {below : List Frame} {meth : Method} {c : Code} {A : Nat → Prop} {Q : State → Prop} {D : va_G} {cI cB cZ : ClassId} {a_this a_bytes : Nat} {bytes : (Nat → Int32)} {size : Int32} (C0 : Cx p s m args c cX4_advance 1 RX4 wsX4_advance D (s_tys cI cB cZ) A) {rv : Int32 × Int32 × Int32 × Int32} (hend : ∀ (pc : Nat) (H : Heap) (locs : List Loc) (ls : Array Slot), decode cX4_advance pc = .ok (.return_, 1) → sS D vwCl A s.heap (wd_X4_advance cI cB cZ a_this a_bytes bytes size rv.1 rv.2.1 rv.2.2.1 rv.2.2.2) H locs → W p l e rm_X4_advance s m args below meth c H locs 0 0 Q (F0 m pc ls [])) : ∀ (next : Int32) (start : Int32) (token : Int32) (number : Int32) (H : Heap) (locs : List Loc) (ls : Array Slot), f_X4_advance_b37 bytes size next start token number = some rv → sS D vwCl A s.heap (wd_X4_advance cI cB cZ a_this a_bytes bytes size next start token number) H locs → lv_has ls 1 [(0, .ref a_this)] → W p l e rm_X4_advance s m args below meth c H locs 0 0 Q (F0 m 37 ls []) := by
  obtain ⟨hx, hb, hml, hown, hts, hK, hA⟩ := id C0
  have inX4 : ∀ w ∈ u_ws RX4 TX4 6, w ∈ wsX4_advance := inX4_X4_advance
  intro next start token number H locs ls h hS hl
  unfold f_X4_advance_b37 at h
  refine lv_aload_n hx hb dX4_advance_37 rfl (lv_at hl 0 rfl) ?_
  refine lv_aload_n hx hb dX4_advance_38 rfl (lv_at hl 0 rfl) ?_
  refine s_get (C := RX4) (T := TX4) (N := 6) hx hb hts inX4 hown hK hS 0 rfl rfl 2 (by decide) (hts (.fieldLink RX4 19 "InnTurned$Script" "next" "I") (List.mem_of_getElem? (i := 1) rfl)) rfl rfl dX4_advance_39 ?_
  refine s_put (ws' := (wd_X4_advance cI cB cZ a_this a_bytes bytes size next next token number)) (C := RX4) (T := TX4) (N := 6) hx hb hts inX4 tyX4 tyX4_ok nmX4 hown hK hS 0 rfl rfl 3 (by decide) (hts (.fieldLink RX4 26 "InnTurned$Script" "start" "I") (List.mem_of_getElem? (i := 3) rfl)) rfl rfl rfl rfl (Nat.le_of_ble_eq_true rfl) rfl dX4_advance_42 (fun H locs hS => ?_)
  refine lv_aload_n hx hb dX4_advance_45 rfl (lv_at hl 0 rfl) ?_
  refine lv_aload_n hx hb dX4_advance_46 rfl (lv_at hl 0 rfl) ?_
  refine lv_aload_n hx hb dX4_advance_47 rfl (lv_at hl 0 rfl) ?_
  refine s_get (C := RX4) (T := TX4) (N := 6) hx hb hts inX4 hown hK hS 0 rfl rfl 3 (by decide) (hts (.fieldLink RX4 26 "InnTurned$Script" "start" "I") (List.mem_of_getElem? (i := 3) rfl)) rfl rfl dX4_advance_48 ?_
  obtain ⟨q7, hq7, h⟩ := s_bind h
  refine u_calliV (r := q7) (As := [.int next]) (rest := [.ref a_this]) (wc := (wd_X4_at cI cB cZ a_this a_bytes bytes size next next token number)) hx hb hml hown hts hK hA hl hS (c_X4_at l D cI cB cZ a_this a_bytes bytes size next next token number next _ _ hq7) (cwV 1 hts gX4_advance_X4_at rfl rfl rfl (by decide +kernel) ⟨Nat.le_of_ble_eq_true rfl, Nat.le_of_ble_eq_true rfl⟩) 0 rfl rfl [0, 1] rfl rfl rfl rfl (Nat.le_of_ble_eq_true rfl) dX4_advance_51 (fun H locs hS => ?_)
  obtain ⟨q8, hq8, h⟩ := s_bind h
  refine u_calliS (r := q8) (As := [.int q7]) (rest := [.ref a_this]) (wc := ([] : va_W)) hx hb hml hown hts hK hA hl hS (c_X4_sort l D cI cB cZ q7 _ _ hq8) (va_cwS 1 hts gX4_advance_X4_sort rfl rfl rfl (by decide +kernel) ⟨Nat.le_of_ble_eq_true rfl, Nat.le_of_ble_eq_true rfl⟩) [] rfl rfl rfl rfl (Nat.le_of_ble_eq_true rfl) dX4_advance_54 (fun H locs hS => ?_)
  refine s_put (ws' := (wd_X4_advance cI cB cZ a_this a_bytes bytes size next next q8 number)) (C := RX4) (T := TX4) (N := 6) hx hb hts inX4 tyX4 tyX4_ok nmX4 hown hK hS 0 rfl rfl 4 (by decide) (hts (.fieldLink RX4 32 "InnTurned$Script" "token" "I") (List.mem_of_getElem? (i := 4) rfl)) rfl rfl rfl rfl (Nat.le_of_ble_eq_true rfl) rfl dX4_advance_57 (fun H locs hS => ?_)
  refine lv_aload_n hx hb dX4_advance_60 rfl (lv_at hl 0 rfl) ?_
  refine s_get (C := RX4) (T := TX4) (N := 6) hx hb hts inX4 hown hK hS 0 rfl rfl 4 (by decide) (hts (.fieldLink RX4 32 "InnTurned$Script" "token" "I") (List.mem_of_getElem? (i := 4) rfl)) rfl rfl dX4_advance_61 ?_
  refine lv_if_ne (tgt := 68) hx hb dX4_advance_64 (by decide) (fun c9 => ?_) (fun c9 => ?_)
  · replace h := s_no c9 h
    refine lv_aload_n hx hb dX4_advance_68 rfl (lv_at hl 0 rfl) ?_
    refine lv_dup hx hb dX4_advance_69 rfl ?_
    refine s_get (C := RX4) (T := TX4) (N := 6) hx hb hts inX4 hown hK hS 0 rfl rfl 2 (by decide) (hts (.fieldLink RX4 19 "InnTurned$Script" "next" "I") (List.mem_of_getElem? (i := 1) rfl)) rfl rfl dX4_advance_70 ?_
    refine lv_iconst (v := (1 : Int32)) hx hb dX4_advance_73 (by decide) ?_
    refine lv_iadd hx hb dX4_advance_74 ?_
    refine s_put (ws' := (wd_X4_advance cI cB cZ a_this a_bytes bytes size (next + (1 : Int32)) next q8 number)) (C := RX4) (T := TX4) (N := 6) hx hb hts inX4 tyX4 tyX4_ok nmX4 hown hK hS 0 rfl rfl 2 (by decide) (hts (.fieldLink RX4 19 "InnTurned$Script" "next" "I") (List.mem_of_getElem? (i := 1) rfl)) rfl rfl rfl rfl (Nat.le_of_ble_eq_true rfl) rfl dX4_advance_75 (fun H locs hS => ?_)
    refine lv_aload_n hx hb dX4_advance_78 rfl (lv_at hl 0 rfl) ?_
    refine s_get (C := RX4) (T := TX4) (N := 6) hx hb hts inX4 hown hK hS 0 rfl rfl 4 (by decide) (hts (.fieldLink RX4 32 "InnTurned$Script" "token" "I") (List.mem_of_getElem? (i := 4) rfl)) rfl rfl dX4_advance_79 ?_
    refine lv_iconst (v := (1 : Int32)) hx hb dX4_advance_82 (by decide) ?_
    refine lv_icmp_eq (tgt := 95) hx hb dX4_advance_83 (by decide) (fun c10 => ?_) (fun c10 => ?_)
    · replace h := s_yes c10 h
      exact w_X4_advance_b95 C0 hend  s_fuel (next + (1 : Int32)) next q8 number _ _ _ h hS (lv_sub hl [0] rfl)
    replace h := s_no c10 h
    refine lv_aload_n hx hb dX4_advance_86 rfl (lv_at hl 0 rfl) ?_
    refine s_get (C := RX4) (T := TX4) (N := 6) hx hb hts inX4 hown hK hS 0 rfl rfl 4 (by decide) (hts (.fieldLink RX4 32 "InnTurned$Script" "token" "I") (List.mem_of_getElem? (i := 4) rfl)) rfl rfl dX4_advance_87 ?_
    refine lv_iconst (v := (2 : Int32)) hx hb dX4_advance_90 (by decide) ?_
    refine lv_icmp_eq (tgt := 95) hx hb dX4_advance_91 (by decide) (fun c11 => ?_) (fun c11 => ?_)
    · replace h := s_yes c11 h
      exact w_X4_advance_b95 C0 hend  s_fuel (next + (1 : Int32)) next q8 number _ _ _ h hS (lv_sub hl [0] rfl)
    replace h := s_no c11 h
    obtain rfl := Option.some.inj h
    exact hend _ _ _ _ dX4_advance_94 hS
  replace h := s_yes c9 h
  obtain rfl := Option.some.inj h
  exact hend _ _ _ _ dX4_advance_67 hS
def f_X4_advance_b0  (bytes : (Nat → Int32)) (size : Int32) : Nat → Int32 → Int32 → Int32 → Int32 → Option (Int32 × Int32 × Int32 × Int32)
  | 0, _, _, _, _ => none
  | fu + 1, next, start, token, number => (if size ≤ next then f_X4_advance_b37  bytes size next start token number else ((f_X4_at bytes size next).bind fun q13 => (if q13 = (32 : Int32) then (f_X4_advance_b0 bytes size fu) (next + (1 : Int32)) start token number else f_X4_advance_b37  bytes size next start token number)))
set_option maxHeartbeats 4000000 in
set_option maxRecDepth 100000 in
theorem w_X4_advance_b0 {p : Program} {l : Launch} {e : Env} {s : State} {m : MethodId} {args : Array Value} {below : List Frame} {meth : Method} {c : Code} {A : Nat → Prop} {Q : State → Prop} {D : va_G} {cI cB cZ : ClassId} {a_this a_bytes : Nat} {bytes : (Nat → Int32)} {size : Int32} (C0 : Cx p s m args c cX4_advance 1 RX4 wsX4_advance D (s_tys cI cB cZ) A) {rv : Int32 × Int32 × Int32 × Int32} (hend : ∀ (pc : Nat) (H : Heap) (locs : List Loc) (ls : Array Slot), decode cX4_advance pc = .ok (.return_, 1) → sS D vwCl A s.heap (wd_X4_advance cI cB cZ a_this a_bytes bytes size rv.1 rv.2.1 rv.2.2.1 rv.2.2.2) H locs → W p l e rm_X4_advance s m args below meth c H locs 0 0 Q (F0 m pc ls [])) : ∀ (fu : Nat) (next : Int32) (start : Int32) (token : Int32) (number : Int32) (H : Heap) (locs : List Loc) (ls : Array Slot), f_X4_advance_b0 bytes size fu next start token number = some rv → sS D vwCl A s.heap (wd_X4_advance cI cB cZ a_this a_bytes bytes size next start token number) H locs → lv_has ls 1 [(0, .ref a_this)] → W p l e rm_X4_advance s m args below meth c H locs 0 0 Q (F0 m 0 ls []) := by
  obtain ⟨hx, hb, hml, hown, hts, hK, hA⟩ := id C0
  have inX4 : ∀ w ∈ u_ws RX4 TX4 6, w ∈ wsX4_advance := inX4_X4_advance
  intro fu
  induction fu with
  | zero => intro next start token number H locs ls h; cases h
  | succ fu ih =>
    intro next start token number H locs ls h hS hl
    rw [f_X4_advance_b0] at h
    refine lv_aload_n hx hb dX4_advance_0 rfl (lv_at hl 0 rfl) ?_
    refine s_get (C := RX4) (T := TX4) (N := 6) hx hb hts inX4 hown hK hS 0 rfl rfl 2 (by decide) (hts (.fieldLink RX4 19 "InnTurned$Script" "next" "I") (List.mem_of_getElem? (i := 1) rfl)) rfl rfl dX4_advance_1 ?_
    refine lv_aload_n hx hb dX4_advance_4 rfl (lv_at hl 0 rfl) ?_
    refine s_get (C := RX4) (T := TX4) (N := 6) hx hb hts inX4 hown hK hS 0 rfl rfl 1 (by decide) (hts (.fieldLink RX4 15 "InnTurned$Script" "size" "I") (List.mem_of_getElem? (i := 2) rfl)) rfl rfl dX4_advance_5 ?_
    refine lv_icmp_ge (tgt := 37) hx hb dX4_advance_8 (by decide) (fun c12 => ?_) (fun c12 => ?_)
    · replace h := s_yes c12 h
      exact w_X4_advance_b37 C0 hend  next start token number _ _ _ h hS (lv_sub hl [0] rfl)
    replace h := s_no c12 h
    refine lv_aload_n hx hb dX4_advance_11 rfl (lv_at hl 0 rfl) ?_
    refine lv_aload_n hx hb dX4_advance_12 rfl (lv_at hl 0 rfl) ?_
    refine s_get (C := RX4) (T := TX4) (N := 6) hx hb hts inX4 hown hK hS 0 rfl rfl 2 (by decide) (hts (.fieldLink RX4 19 "InnTurned$Script" "next" "I") (List.mem_of_getElem? (i := 1) rfl)) rfl rfl dX4_advance_13 ?_
    obtain ⟨q13, hq13, h⟩ := s_bind h
    refine u_calliV (r := q13) (As := [.int next]) (rest := []) (wc := (wd_X4_at cI cB cZ a_this a_bytes bytes size next start token number)) hx hb hml hown hts hK hA hl hS (c_X4_at l D cI cB cZ a_this a_bytes bytes size next start token number next _ _ hq13) (cwV 1 hts gX4_advance_X4_at rfl rfl rfl (by decide +kernel) ⟨Nat.le_of_ble_eq_true rfl, Nat.le_of_ble_eq_true rfl⟩) 0 rfl rfl [0, 1] rfl rfl rfl rfl (Nat.le_of_ble_eq_true rfl) dX4_advance_16 (fun H locs hS => ?_)
    refine lv_bipush (v := (32 : Int32)) hx hb dX4_advance_19 (by decide) ?_
    refine lv_icmp_ne (tgt := 37) hx hb dX4_advance_21 (by decide) (fun c14 => ?_) (fun c14 => ?_)
    · replace h := s_no c14 h
      exact w_X4_advance_b37 C0 hend  next start token number _ _ _ h hS (lv_sub hl [0] rfl)
    replace h := s_yes c14 h
    refine lv_aload_n hx hb dX4_advance_24 rfl (lv_at hl 0 rfl) ?_
    refine lv_dup hx hb dX4_advance_25 rfl ?_
    refine s_get (C := RX4) (T := TX4) (N := 6) hx hb hts inX4 hown hK hS 0 rfl rfl 2 (by decide) (hts (.fieldLink RX4 19 "InnTurned$Script" "next" "I") (List.mem_of_getElem? (i := 1) rfl)) rfl rfl dX4_advance_26 ?_
    refine lv_iconst (v := (1 : Int32)) hx hb dX4_advance_29 (by decide) ?_
    refine lv_iadd hx hb dX4_advance_30 ?_
    refine s_put (ws' := (wd_X4_advance cI cB cZ a_this a_bytes bytes size (next + (1 : Int32)) start token number)) (C := RX4) (T := TX4) (N := 6) hx hb hts inX4 tyX4 tyX4_ok nmX4 hown hK hS 0 rfl rfl 2 (by decide) (hts (.fieldLink RX4 19 "InnTurned$Script" "next" "I") (List.mem_of_getElem? (i := 1) rfl)) rfl rfl rfl rfl (Nat.le_of_ble_eq_true rfl) rfl dX4_advance_31 (fun H locs hS => ?_)
    refine lv_goto (tgt := 0) hx hb dX4_advance_34 (by decide) ?_
    exact ih (next + (1 : Int32)) start token number _ _ _ h hS (lv_sub hl [0] rfl)
def f_X4_advance  (bytes : (Nat → Int32)) (size : Int32) (next : Int32) (start : Int32) (token : Int32) (number : Int32) : Option (Int32 × Int32 × Int32 × Int32) := f_X4_advance_b0  bytes size s_fuel next start token number
set_option maxHeartbeats 4000000 in
set_option maxRecDepth 100000 in
theorem c_X4_advance (l : Launch) (D : va_G) (cI cB cZ : ClassId) (a_this : Nat) (a_bytes : Nat) (bytes : (Nat → Int32)) (size : Int32) (next : Int32) (start : Int32) (token : Int32) (number : Int32) (rv : Int32 × Int32 × Int32 × Int32) (sz : Nat) (hf : f_X4_advance bytes size next start token number = some rv) : Met l yX4_advance wsX4_advance rm_X4_advance (sPc D vwCl (s_tys cI cB cZ) [.ref a_this] (wd_X4_advance cI cB cZ a_this a_bytes bytes size next start token number) sz) (sQv D vwCl (wd_X4_advance cI cB cZ a_this a_bytes bytes size next start token number) (wd_X4_advance cI cB cZ a_this a_bytes bytes size rv.1 rv.2.1 rv.2.2.1 rv.2.2.2) sz) 0 0 (va_A (wd_X4_advance cI cB cZ a_this a_bytes bytes size next start token number) sz) := by
  refine s_enter_v (cc := cX4_advance) (nL := 1) (by decide) rfl (Nat.le_of_ble_eq_true rfl) ?_
  intro p e s m args below meth c A Q C0 hend ls hl hS
  have h := hf
  clear hf
  replace hl : lv_has ls 1 [(0, .ref a_this)] := hl
  unfold f_X4_advance at h
  obtain ⟨hx, hb, hml, hown, hts, hK, hA⟩ := id C0
  have inX4 : ∀ w ∈ u_ws RX4 TX4 6, w ∈ wsX4_advance := inX4_X4_advance
  exact w_X4_advance_b0 C0 hend  s_fuel next start token number _ _ _ h hS (lv_sub hl [0] rfl)

-- InnTurned$Table.digestOn(J)J
def wd_X5_digestOn (cI cB cZ : ClassId) (a_this : Nat) (a_cells : Nat) (n_cells : Nat) (width : Int32) (most : Int32) (cells : (Nat → Int32)) (rows : Int32) : va_W := [(a_this, .inr (3, [.int width, .int most, .ref a_cells, .int rows])), (a_cells, .inl (cI, n_cells, .inl cells))]
abbrev rm_X5_digestOn : Room := { frames := 1, cells := 0, slots := 0, locals := 22 }
set_option maxRecDepth 20000 in
theorem inX5_X5_digestOn : ∀ w ∈ u_ws RX5 TX5 4, w ∈ wsX5_digestOn := by decide +kernel
def f_X5_digestOn_b13 (k_b2 : Int64 → Int32 → Option (Int64)) (n_cells : Nat) (width : Int32) (cells : (Nat → Int32)) (rows : Int32) : Nat → Int64 → Int32 → Int32 → Option (Int64)
  | 0, _, _, _ => none
  | fu + 1, l1, l3, l4 => (if width ≤ l4 then k_b2 l1 (l3 + (1 : Int32)) else ((f_X5_cell n_cells width cells rows l3 l4).bind fun q2 => (f_X5_digestOn_b13 k_b2 n_cells width cells rows fu) (((31 : Int64) * l1) + (Int32.toInt64 q2)) l3 (l4 + (1 : Int32))))
set_option maxHeartbeats 4000000 in
set_option maxRecDepth 100000 in
theorem w_X5_digestOn_b13 {p : Program} {l : Launch} {e : Env} {s : State} {m : MethodId} {args : Array Value} {below : List Frame} {meth : Method} {c : Code} {A : Nat → Prop} {Q : State → Prop} {D : va_G} {cI cB cZ : ClassId} {a_this a_cells : Nat} {n_cells : Nat} {width : Int32} {most : Int32} {cells : (Nat → Int32)} {rows : Int32} (C0 : Cx p s m args c cX5_digestOn 5 RX5 wsX5_digestOn D (s_tys cI cB cZ) A) {rv : Int64} (hend : ∀ (pc : Nat) (H : Heap) (locs : List Loc) (ls : Array Slot), decode cX5_digestOn pc = .ok (.lreturn, 1) → sS D vwCl A s.heap (wd_X5_digestOn cI cB cZ a_this a_cells n_cells width most cells rows) H locs → W p l e rm_X5_digestOn s m args below meth c H locs 0 0 Q (F0 m pc ls [.long rv])) (k_b2 : Int64 → Int32 → Option (Int64)) (hk_b2 : ∀  (l1 : Int64) (l3 : Int32) (H : Heap) (locs : List Loc) (ls : Array Slot), k_b2 l1 l3 = some rv → sS D vwCl A s.heap (wd_X5_digestOn cI cB cZ a_this a_cells n_cells width most cells rows) H locs → lv_has ls 5 [(0, .ref a_this), (1, .long l1), (3, .int l3)] → W p l e rm_X5_digestOn s m args below meth c H locs 0 0 Q (F0 m 2 ls [])) : ∀ (fu : Nat)  (l1 : Int64) (l3 : Int32) (l4 : Int32) (H : Heap) (locs : List Loc) (ls : Array Slot), f_X5_digestOn_b13 k_b2 n_cells width cells rows fu l1 l3 l4 = some rv → sS D vwCl A s.heap (wd_X5_digestOn cI cB cZ a_this a_cells n_cells width most cells rows) H locs → lv_has ls 5 [(0, .ref a_this), (1, .long l1), (3, .int l3), (4, .int l4)] → W p l e rm_X5_digestOn s m args below meth c H locs 0 0 Q (F0 m 13 ls []) := by
  obtain ⟨hx, hb, hml, hown, hts, hK, hA⟩ := id C0
  have inX5 : ∀ w ∈ u_ws RX5 TX5 4, w ∈ wsX5_digestOn := inX5_X5_digestOn
  intro fu
  induction fu with
  | zero => intro l1 l3 l4 H locs ls h; cases h
  | succ fu ih =>
    intro l1 l3 l4 H locs ls h hS hl
    rw [f_X5_digestOn_b13] at h
    refine lv_iload hx hb dX5_digestOn_13 (lv_at hl 3 rfl) ?_
    refine lv_aload_n hx hb dX5_digestOn_15 rfl (lv_at hl 0 rfl) ?_
    refine s_get (C := RX5) (T := TX5) (N := 4) hx hb hts inX5 hown hK hS 0 rfl rfl 0 (by decide) (hts (.fieldLink RX5 15 "InnTurned$Table" "width" "I") (List.mem_of_getElem? (i := 2) rfl)) rfl rfl dX5_digestOn_16 ?_
    refine lv_icmp_ge (tgt := 43) hx hb dX5_digestOn_19 (by decide) (fun c1 => ?_) (fun c1 => ?_)
    · replace h := s_yes c1 h
      refine lv_iinc (v := (l3 + (1 : Int32))) (lv' := [(3, .int (l3 + (1 : Int32))), (0, .ref a_this), (1, .long l1), (4, .int l4)]) hx hb dX5_digestOn_43 hl (k := 2) rfl rfl (by decide) rfl (fun ls hl => ?_)
      refine lv_goto (tgt := 2) hx hb dX5_digestOn_46 (by decide) ?_
      exact hk_b2 l1 (l3 + (1 : Int32)) _ _ _ h hS (lv_sub hl [1, 2, 0] rfl)
    replace h := s_no c1 h
    refine lv_ldc2 (v := (31 : Int64)) hx hb hown (hts (.constantLong RX5 48 (31)) (List.mem_of_getElem? (i := 3) rfl)) dX5_digestOn_22 ?_
    refine lv_lload_n hx hb dX5_digestOn_25 rfl (lv_at hl 1 rfl) ?_
    refine lv_lmul hx hb dX5_digestOn_26 ?_
    refine lv_aload_n hx hb dX5_digestOn_27 rfl (lv_at hl 0 rfl) ?_
    refine lv_iload_n hx hb dX5_digestOn_28 rfl (lv_at hl 2 rfl) ?_
    refine lv_iload hx hb dX5_digestOn_29 (lv_at hl 3 rfl) ?_
    obtain ⟨q2, hq2, h⟩ := s_bind h
    refine u_calliV (r := q2) (As := [.int l3, .int l4]) (rest := [.long ((31 : Int64) * l1)]) (wc := (wd_X5_cell cI cB cZ a_this a_cells n_cells width most cells rows)) hx hb hml hown hts hK hA hl hS (c_X5_cell l D cI cB cZ a_this a_cells n_cells width most cells rows l3 l4 _ _ hq2) (cwV 2 hts gX5_digestOn_X5_cell rfl rfl rfl (by decide +kernel) ⟨Nat.le_of_ble_eq_true rfl, Nat.le_of_ble_eq_true rfl⟩) 0 rfl rfl [0, 1] rfl rfl rfl rfl (Nat.le_of_ble_eq_true rfl) dX5_digestOn_31 (fun H locs hS => ?_)
    refine lv_i2l (v := (Int32.toInt64 q2)) hx hb dX5_digestOn_34 rfl ?_
    refine lv_ladd hx hb dX5_digestOn_35 ?_
    refine lv_lstore_n (lv' := [(1, .long (((31 : Int64) * l1) + (Int32.toInt64 q2))), (0, .ref a_this), (3, .int l3), (4, .int l4)]) hx hb dX5_digestOn_36 rfl hl (by decide) rfl (fun ls hl => ?_)
    refine lv_iinc (v := (l4 + (1 : Int32))) (lv' := [(4, .int (l4 + (1 : Int32))), (1, .long (((31 : Int64) * l1) + (Int32.toInt64 q2))), (0, .ref a_this), (3, .int l3)]) hx hb dX5_digestOn_37 hl (k := 3) rfl rfl (by decide) rfl (fun ls hl => ?_)
    refine lv_goto (tgt := 13) hx hb dX5_digestOn_40 (by decide) ?_
    exact ih (((31 : Int64) * l1) + (Int32.toInt64 q2)) l3 (l4 + (1 : Int32)) _ _ _ h hS (lv_sub hl [2, 1, 3, 0] rfl)
def f_X5_digestOn_b2 (n_cells : Nat) (width : Int32) (cells : (Nat → Int32)) (rows : Int32) : Nat → Int64 → Int32 → Option (Int64)
  | 0, _, _ => none
  | fu + 1, l1, l3 => (if rows ≤ l3 then some (l1) else f_X5_digestOn_b13 (f_X5_digestOn_b2 n_cells width cells rows fu) n_cells width cells rows s_fuel l1 l3 (0 : Int32))
set_option maxHeartbeats 4000000 in
set_option maxRecDepth 100000 in
theorem w_X5_digestOn_b2 {p : Program} {l : Launch} {e : Env} {s : State} {m : MethodId} {args : Array Value} {below : List Frame} {meth : Method} {c : Code} {A : Nat → Prop} {Q : State → Prop} {D : va_G} {cI cB cZ : ClassId} {a_this a_cells : Nat} {n_cells : Nat} {width : Int32} {most : Int32} {cells : (Nat → Int32)} {rows : Int32} (C0 : Cx p s m args c cX5_digestOn 5 RX5 wsX5_digestOn D (s_tys cI cB cZ) A) {rv : Int64} (hend : ∀ (pc : Nat) (H : Heap) (locs : List Loc) (ls : Array Slot), decode cX5_digestOn pc = .ok (.lreturn, 1) → sS D vwCl A s.heap (wd_X5_digestOn cI cB cZ a_this a_cells n_cells width most cells rows) H locs → W p l e rm_X5_digestOn s m args below meth c H locs 0 0 Q (F0 m pc ls [.long rv])) : ∀ (fu : Nat)  (l1 : Int64) (l3 : Int32) (H : Heap) (locs : List Loc) (ls : Array Slot), f_X5_digestOn_b2 n_cells width cells rows fu l1 l3 = some rv → sS D vwCl A s.heap (wd_X5_digestOn cI cB cZ a_this a_cells n_cells width most cells rows) H locs → lv_has ls 5 [(0, .ref a_this), (1, .long l1), (3, .int l3)] → W p l e rm_X5_digestOn s m args below meth c H locs 0 0 Q (F0 m 2 ls []) := by
  obtain ⟨hx, hb, hml, hown, hts, hK, hA⟩ := id C0
  have inX5 : ∀ w ∈ u_ws RX5 TX5 4, w ∈ wsX5_digestOn := inX5_X5_digestOn
  intro fu
  induction fu with
  | zero => intro l1 l3 H locs ls h; cases h
  | succ fu ih =>
    intro l1 l3 H locs ls h hS hl
    rw [f_X5_digestOn_b2] at h
    refine lv_iload_n hx hb dX5_digestOn_2 rfl (lv_at hl 2 rfl) ?_
    refine lv_aload_n hx hb dX5_digestOn_3 rfl (lv_at hl 0 rfl) ?_
    refine s_get (C := RX5) (T := TX5) (N := 4) hx hb hts inX5 hown hK hS 0 rfl rfl 3 (by decide) (hts (.fieldLink RX5 28 "InnTurned$Table" "rows" "I") (List.mem_of_getElem? (i := 1) rfl)) rfl rfl dX5_digestOn_4 ?_
    refine lv_icmp_ge (tgt := 49) hx hb dX5_digestOn_7 (by decide) (fun c3 => ?_) (fun c3 => ?_)
    · replace h := s_yes c3 h
      refine lv_lload_n hx hb dX5_digestOn_49 rfl (lv_at hl 1 rfl) ?_
      obtain rfl := Option.some.inj h
      exact hend _ _ _ _ dX5_digestOn_50 hS
    replace h := s_no c3 h
    refine lv_iconst (v := (0 : Int32)) hx hb dX5_digestOn_10 (by decide) ?_
    refine lv_istore (lv' := [(4, .int (0 : Int32)), (0, .ref a_this), (1, .long l1), (3, .int l3)]) hx hb dX5_digestOn_11 hl (by decide) rfl (fun ls hl => ?_)
    exact w_X5_digestOn_b13 C0 hend (f_X5_digestOn_b2 n_cells width cells rows fu) ih s_fuel l1 l3 (0 : Int32) _ _ _ h hS (lv_sub hl [1, 2, 3, 0] rfl)
def f_X5_digestOn (n_cells : Nat) (width : Int32) (cells : (Nat → Int32)) (rows : Int32)  (p1 : Int64) : Option (Int64) := f_X5_digestOn_b2  n_cells width cells rows s_fuel p1 (0 : Int32)
set_option maxHeartbeats 4000000 in
set_option maxRecDepth 100000 in
theorem c_X5_digestOn (l : Launch) (D : va_G) (cI cB cZ : ClassId) (a_this : Nat) (a_cells : Nat) (n_cells : Nat) (width : Int32) (most : Int32) (cells : (Nat → Int32)) (rows : Int32) (p1 : Int64) (rv : Int64) (sz : Nat) (hf : f_X5_digestOn n_cells width cells rows p1 = some rv) : Met l yX5_digestOn wsX5_digestOn rm_X5_digestOn (sPc D vwCl (s_tys cI cB cZ) [.ref a_this, .long p1] (wd_X5_digestOn cI cB cZ a_this a_cells n_cells width most cells rows) sz) (sQl D vwCl (wd_X5_digestOn cI cB cZ a_this a_cells n_cells width most cells rows) (wd_X5_digestOn cI cB cZ a_this a_cells n_cells width most cells rows) sz rv) 0 0 (va_A (wd_X5_digestOn cI cB cZ a_this a_cells n_cells width most cells rows) sz) := by
  refine s_enter_l (cc := cX5_digestOn) (nL := 5) (r := rv) (by decide) rfl (Nat.le_of_ble_eq_true rfl) ?_
  intro p e s m args below meth c A Q C0 hend ls hl hS
  have h := hf
  clear hf
  replace hl : lv_has ls 5 [(0, .ref a_this), (1, .long p1)] := hl
  unfold f_X5_digestOn at h
  obtain ⟨hx, hb, hml, hown, hts, hK, hA⟩ := id C0
  have inX5 : ∀ w ∈ u_ws RX5 TX5 4, w ∈ wsX5_digestOn := inX5_X5_digestOn
  refine lv_iconst (v := (0 : Int32)) hx hb dX5_digestOn_0 (by decide) ?_
  refine lv_istore_n (lv' := [(3, .int (0 : Int32)), (0, .ref a_this), (1, .long p1)]) hx hb dX5_digestOn_1 rfl hl (by decide) rfl (fun ls hl => ?_)
  exact w_X5_digestOn_b2 C0 hend  s_fuel p1 (0 : Int32) _ _ _ h hS (lv_sub hl [1, 2, 0] rfl)

-- InnTurned$Telling.isNumberWithin(LInnTurned$Script;II)Z
def wd_X6_isNumberWithin (cI cB cZ : ClassId) (a_p1 : Nat) (a_p1_bytes : Nat)  (p1_size : Int32) (p1_next : Int32) (p1_start : Int32) (p1_token : Int32) (p1_number : Int32) : va_W := [(a_p1, .inr (2, [.ref a_p1_bytes, .int p1_size, .int p1_next, .int p1_start, .int p1_token, .int p1_number]))]
abbrev rm_X6_isNumberWithin : Room := { frames := 1, cells := 0, slots := 0, locals := 22 }
set_option maxRecDepth 20000 in
theorem inX4_X6_isNumberWithin : ∀ w ∈ u_ws RX4 TX4 6, w ∈ wsX6_isNumberWithin := by decide +kernel
def f_X6_isNumberWithin  (p1_token : Int32) (p1_number : Int32)  (p2 : Int32) (p3 : Int32) : Option (Int32) := (if p1_token = (2 : Int32) then ((f_X8_within p1_number p2 p3).bind fun q2 => (if q2 = 0 then some ((0 : Int32)) else some ((1 : Int32)))) else some ((0 : Int32)))
set_option maxHeartbeats 4000000 in
set_option maxRecDepth 100000 in
theorem c_X6_isNumberWithin (l : Launch) (D : va_G) (cI cB cZ : ClassId) (a_p1 : Nat) (a_p1_bytes : Nat) (p1_size : Int32) (p1_next : Int32) (p1_start : Int32) (p1_token : Int32) (p1_number : Int32) (p2 : Int32) (p3 : Int32) (rv : Int32) (sz : Nat) (hf : f_X6_isNumberWithin p1_token p1_number p2 p3 = some rv) : Met l yX6_isNumberWithin wsX6_isNumberWithin rm_X6_isNumberWithin (sPc D vwCl (s_tys cI cB cZ) [.ref a_p1, .int p2, .int p3] (wd_X6_isNumberWithin cI cB cZ a_p1 a_p1_bytes p1_size p1_next p1_start p1_token p1_number) sz) (sQi D vwCl (wd_X6_isNumberWithin cI cB cZ a_p1 a_p1_bytes p1_size p1_next p1_start p1_token p1_number) (wd_X6_isNumberWithin cI cB cZ a_p1 a_p1_bytes p1_size p1_next p1_start p1_token p1_number) sz rv) 0 0 (va_A (wd_X6_isNumberWithin cI cB cZ a_p1 a_p1_bytes p1_size p1_next p1_start p1_token p1_number) sz) := by
  refine s_enter_z (cc := cX6_isNumberWithin) (nL := 3) (r := rv) (by decide) rfl (Nat.le_of_ble_eq_true rfl) ?_
  intro p e s m args below meth c A Q C0 hend ls hl hS
  have h := hf
  clear hf
  replace hl : lv_has ls 3 [(0, .ref a_p1), (1, .int p2), (2, .int p3)] := hl
  unfold f_X6_isNumberWithin at h
  obtain ⟨hx, hb, hml, hown, hts, hK, hA⟩ := id C0
  have inX4 : ∀ w ∈ u_ws RX4 TX4 6, w ∈ wsX6_isNumberWithin := inX4_X6_isNumberWithin
  refine lv_aload_n hx hb dX6_isNumberWithin_0 rfl (lv_at hl 0 rfl) ?_
  refine s_getN (C := RX4) (T := TX4) (N := 6) hx hb hts inX4 hown hK hS 0 rfl rfl 4 (by decide) 27 rfl rfl rfl dX6_isNumberWithin_1 ?_
  refine lv_iconst (v := (2 : Int32)) hx hb dX6_isNumberWithin_4 (by decide) ?_
  refine lv_icmp_ne (tgt := 24) hx hb dX6_isNumberWithin_5 (by decide) (fun c1 => ?_) (fun c1 => ?_)
  · replace h := s_no c1 h
    refine lv_iconst (v := (0 : Int32)) hx hb dX6_isNumberWithin_24 (by decide) ?_
    obtain rfl := Option.some.inj h
    exact hend _ _ _ _ dX6_isNumberWithin_25 (Or.inl rfl) hS
  replace h := s_yes c1 h
  refine lv_aload_n hx hb dX6_isNumberWithin_8 rfl (lv_at hl 0 rfl) ?_
  refine s_getN (C := RX4) (T := TX4) (N := 6) hx hb hts inX4 hown hK hS 0 rfl rfl 5 (by decide) 28 rfl rfl rfl dX6_isNumberWithin_9 ?_
  refine lv_iload_n hx hb dX6_isNumberWithin_12 rfl (lv_at hl 1 rfl) ?_
  refine lv_iload_n hx hb dX6_isNumberWithin_13 rfl (lv_at hl 2 rfl) ?_
  obtain ⟨q2, hq2, h⟩ := s_bind h
  refine u_calliN (host := "InnTurned") (r := q2) (As := [.int p1_number, .int p2, .int p3]) (rest := []) (wc := ([] : va_W)) hx hb hml hown hts hK hA hl hS (c_X8_within l D cI cB cZ p1_number p2 p3 _ _ hq2) ⟨va_cnB 3 hts gX6_isNumberWithin_X8_within_n125 rfl rfl rfl (hK.2 _ (List.mem_of_getElem? (i := 33) rfl)) (hts (.initialized RX8) (List.mem_of_getElem? (i := 2) rfl)) (by decide +kernel) ⟨Nat.le_of_ble_eq_true rfl, Nat.le_of_ble_eq_true rfl⟩, (hts (.static yX8_within) (List.mem_of_getElem? (i := 1) rfl)), trivial⟩ [] rfl rfl rfl rfl (Nat.le_of_ble_eq_true rfl) dX6_isNumberWithin_14 (fun H locs hS => ?_)
  refine lv_if_eq (tgt := 24) hx hb dX6_isNumberWithin_17 (by decide) (fun c3 => ?_) (fun c3 => ?_)
  · replace h := s_yes c3 h
    refine lv_iconst (v := (0 : Int32)) hx hb dX6_isNumberWithin_24 (by decide) ?_
    obtain rfl := Option.some.inj h
    exact hend _ _ _ _ dX6_isNumberWithin_25 (Or.inl rfl) hS
  replace h := s_no c3 h
  refine lv_iconst (v := (1 : Int32)) hx hb dX6_isNumberWithin_20 (by decide) ?_
  refine lv_goto (tgt := 25) hx hb dX6_isNumberWithin_21 (by decide) ?_
  obtain rfl := Option.some.inj h
  exact hend _ _ _ _ dX6_isNumberWithin_25 (Or.inr rfl) hS

-- InnTurned$Telling.numberWithin(LInnTurned$Script;II)I
def wd_X6_numberWithin (cI cB cZ : ClassId) (a_p1 : Nat) (a_p1_bytes : Nat)  (p1_bytes : (Nat → Int32)) (p1_size : Int32) (p1_next : Int32) (p1_start : Int32) (p1_token : Int32) (p1_number : Int32) : va_W := [(a_p1, .inr (2, [.ref a_p1_bytes, .int p1_size, .int p1_next, .int p1_start, .int p1_token, .int p1_number])), (a_p1_bytes, .inl (cB, 150, .inl p1_bytes))]
abbrev rm_X6_numberWithin : Room := { frames := 3, cells := 0, slots := 0, locals := 62 }
set_option maxRecDepth 20000 in
theorem inX4_X6_numberWithin : ∀ w ∈ u_ws RX4 TX4 6, w ∈ wsX6_numberWithin := by decide +kernel
def f_X6_numberWithin  (p1_bytes : (Nat → Int32)) (p1_size : Int32) (p1_next : Int32) (p1_start : Int32) (p1_token : Int32) (p1_number : Int32) (p2 : Int32) (p3 : Int32) : Option (Int32 × Int32 × Int32 × Int32 × Int32) := ((f_X4_advance p1_bytes p1_size p1_next p1_start p1_token p1_number).bind fun q1 => ((f_X6_isNumberWithin q1.2.2.1 q1.2.2.2 p2 p3).bind fun q2 => (if q2 = 0 then some ((-1 : Int32), q1.1, q1.2.1, q1.2.2.1, q1.2.2.2) else some (q1.2.2.2, q1.1, q1.2.1, q1.2.2.1, q1.2.2.2))))
set_option maxHeartbeats 4000000 in
set_option maxRecDepth 100000 in
theorem c_X6_numberWithin (l : Launch) (D : va_G) (cI cB cZ : ClassId) (a_p1 : Nat) (a_p1_bytes : Nat) (p1_bytes : (Nat → Int32)) (p1_size : Int32) (p1_next : Int32) (p1_start : Int32) (p1_token : Int32) (p1_number : Int32) (p2 : Int32) (p3 : Int32) (rv : Int32 × Int32 × Int32 × Int32 × Int32) (sz : Nat) (hf : f_X6_numberWithin p1_bytes p1_size p1_next p1_start p1_token p1_number p2 p3 = some rv) : Met l yX6_numberWithin wsX6_numberWithin rm_X6_numberWithin (sPc D vwCl (s_tys cI cB cZ) [.ref a_p1, .int p2, .int p3] (wd_X6_numberWithin cI cB cZ a_p1 a_p1_bytes p1_bytes p1_size p1_next p1_start p1_token p1_number) sz) (sQi D vwCl (wd_X6_numberWithin cI cB cZ a_p1 a_p1_bytes p1_bytes p1_size p1_next p1_start p1_token p1_number) (wd_X6_numberWithin cI cB cZ a_p1 a_p1_bytes p1_bytes p1_size rv.2.1 rv.2.2.1 rv.2.2.2.1 rv.2.2.2.2) sz rv.1) 0 0 (va_A (wd_X6_numberWithin cI cB cZ a_p1 a_p1_bytes p1_bytes p1_size p1_next p1_start p1_token p1_number) sz) := by
  refine s_enter_n (cc := cX6_numberWithin) (nL := 3) (r := rv.1) (by decide) rfl (Nat.le_of_ble_eq_true rfl) ?_
  intro p e s m args below meth c A Q C0 hend ls hl hS
  have h := hf
  clear hf
  replace hl : lv_has ls 3 [(0, .ref a_p1), (1, .int p2), (2, .int p3)] := hl
  unfold f_X6_numberWithin at h
  obtain ⟨hx, hb, hml, hown, hts, hK, hA⟩ := id C0
  have inX4 : ∀ w ∈ u_ws RX4 TX4 6, w ∈ wsX6_numberWithin := inX4_X6_numberWithin
  refine lv_aload_n hx hb dX6_numberWithin_0 rfl (lv_at hl 0 rfl) ?_
  obtain ⟨q1, hq1, h⟩ := s_bind h
  refine r_callvV (As := []) (rest := []) (wc := (wd_X4_advance cI cB cZ a_p1 a_p1_bytes p1_bytes p1_size p1_next p1_start p1_token p1_number)) (w1 := (wd_X4_advance cI cB cZ a_p1 a_p1_bytes p1_bytes p1_size q1.1 q1.2.1 q1.2.2.1 q1.2.2.2)) (ws' := (wd_X6_numberWithin cI cB cZ a_p1 a_p1_bytes p1_bytes p1_size q1.1 q1.2.1 q1.2.2.1 q1.2.2.2)) hx hb hml hown hts hK hA hl hS (c_X4_advance l D cI cB cZ a_p1 a_p1_bytes p1_bytes p1_size p1_next p1_start p1_token p1_number _ _ hq1) (cwV 0 hts gX6_numberWithin_X4_advance rfl rfl rfl (by decide +kernel) ⟨Nat.le_of_ble_eq_true rfl, Nat.le_of_ble_eq_true rfl⟩) 0 rfl rfl [0, 1] rfl rfl rfl [.inr 0, .inr 1] rfl rfl rfl rfl (Nat.le_of_ble_eq_true rfl) dX6_numberWithin_1 (fun H locs hS => ?_)
  refine lv_aload_n hx hb dX6_numberWithin_4 rfl (lv_at hl 0 rfl) ?_
  refine lv_iload_n hx hb dX6_numberWithin_5 rfl (lv_at hl 1 rfl) ?_
  refine lv_iload_n hx hb dX6_numberWithin_6 rfl (lv_at hl 2 rfl) ?_
  obtain ⟨q2, hq2, h⟩ := s_bind h
  refine u_calliS (r := q2) (As := [.ref a_p1, .int p2, .int p3]) (rest := []) (wc := (wd_X6_isNumberWithin cI cB cZ a_p1 a_p1_bytes p1_size q1.1 q1.2.1 q1.2.2.1 q1.2.2.2)) hx hb hml hown hts hK hA hl hS (c_X6_isNumberWithin l D cI cB cZ a_p1 a_p1_bytes p1_size q1.1 q1.2.1 q1.2.2.1 q1.2.2.2 p2 p3 _ _ hq2) (va_cwS 3 hts gX6_numberWithin_X6_isNumberWithin rfl rfl rfl (by decide +kernel) ⟨Nat.le_of_ble_eq_true rfl, Nat.le_of_ble_eq_true rfl⟩) [0] rfl rfl rfl rfl (Nat.le_of_ble_eq_true rfl) dX6_numberWithin_7 (fun H locs hS => ?_)
  refine lv_if_eq (tgt := 20) hx hb dX6_numberWithin_10 (by decide) (fun c3 => ?_) (fun c3 => ?_)
  · replace h := s_yes c3 h
    refine lv_iconst (v := (-1 : Int32)) hx hb dX6_numberWithin_20 (by decide) ?_
    obtain rfl := Option.some.inj h
    exact hend _ _ _ _ dX6_numberWithin_21 hS
  replace h := s_no c3 h
  refine lv_aload_n hx hb dX6_numberWithin_13 rfl (lv_at hl 0 rfl) ?_
  refine s_getN (C := RX4) (T := TX4) (N := 6) hx hb hts inX4 hown hK hS 0 rfl rfl 5 (by decide) 28 rfl rfl rfl dX6_numberWithin_14 ?_
  refine lv_goto (tgt := 21) hx hb dX6_numberWithin_17 (by decide) ?_
  obtain rfl := Option.some.inj h
  exact hend _ _ _ _ dX6_numberWithin_21 hS

-- InnTurned$Telling.stops(LInnTurned$Script;)Z
def wd_X6_stops (cI cB cZ : ClassId) (a_p1 : Nat) (a_p1_bytes : Nat)  (p1_bytes : (Nat → Int32)) (p1_size : Int32) (p1_next : Int32) (p1_start : Int32) (p1_token : Int32) (p1_number : Int32) : va_W := [(a_p1, .inr (2, [.ref a_p1_bytes, .int p1_size, .int p1_next, .int p1_start, .int p1_token, .int p1_number])), (a_p1_bytes, .inl (cB, 150, .inl p1_bytes))]
abbrev rm_X6_stops : Room := { frames := 3, cells := 0, slots := 0, locals := 62 }
set_option maxRecDepth 20000 in
theorem inX4_X6_stops : ∀ w ∈ u_ws RX4 TX4 6, w ∈ wsX6_stops := by decide +kernel
def f_X6_stops  (p1_bytes : (Nat → Int32)) (p1_size : Int32) (p1_next : Int32) (p1_start : Int32) (p1_token : Int32) (p1_number : Int32) : Option (Int32 × Int32 × Int32 × Int32 × Int32) := ((f_X4_advance p1_bytes p1_size p1_next p1_start p1_token p1_number).bind fun q1 => (if q1.2.2.1 = (3 : Int32) then some ((1 : Int32), q1.1, q1.2.1, q1.2.2.1, q1.2.2.2) else some ((0 : Int32), q1.1, q1.2.1, q1.2.2.1, q1.2.2.2)))
set_option maxHeartbeats 4000000 in
set_option maxRecDepth 100000 in
theorem c_X6_stops (l : Launch) (D : va_G) (cI cB cZ : ClassId) (a_p1 : Nat) (a_p1_bytes : Nat) (p1_bytes : (Nat → Int32)) (p1_size : Int32) (p1_next : Int32) (p1_start : Int32) (p1_token : Int32) (p1_number : Int32) (rv : Int32 × Int32 × Int32 × Int32 × Int32) (sz : Nat) (hf : f_X6_stops p1_bytes p1_size p1_next p1_start p1_token p1_number = some rv) : Met l yX6_stops wsX6_stops rm_X6_stops (sPc D vwCl (s_tys cI cB cZ) [.ref a_p1] (wd_X6_stops cI cB cZ a_p1 a_p1_bytes p1_bytes p1_size p1_next p1_start p1_token p1_number) sz) (sQi D vwCl (wd_X6_stops cI cB cZ a_p1 a_p1_bytes p1_bytes p1_size p1_next p1_start p1_token p1_number) (wd_X6_stops cI cB cZ a_p1 a_p1_bytes p1_bytes p1_size rv.2.1 rv.2.2.1 rv.2.2.2.1 rv.2.2.2.2) sz rv.1) 0 0 (va_A (wd_X6_stops cI cB cZ a_p1 a_p1_bytes p1_bytes p1_size p1_next p1_start p1_token p1_number) sz) := by
  refine s_enter_z (cc := cX6_stops) (nL := 1) (r := rv.1) (by decide) rfl (Nat.le_of_ble_eq_true rfl) ?_
  intro p e s m args below meth c A Q C0 hend ls hl hS
  have h := hf
  clear hf
  replace hl : lv_has ls 1 [(0, .ref a_p1)] := hl
  unfold f_X6_stops at h
  obtain ⟨hx, hb, hml, hown, hts, hK, hA⟩ := id C0
  have inX4 : ∀ w ∈ u_ws RX4 TX4 6, w ∈ wsX6_stops := inX4_X6_stops
  refine lv_aload_n hx hb dX6_stops_0 rfl (lv_at hl 0 rfl) ?_
  obtain ⟨q1, hq1, h⟩ := s_bind h
  refine r_callvV (As := []) (rest := []) (wc := (wd_X4_advance cI cB cZ a_p1 a_p1_bytes p1_bytes p1_size p1_next p1_start p1_token p1_number)) (w1 := (wd_X4_advance cI cB cZ a_p1 a_p1_bytes p1_bytes p1_size q1.1 q1.2.1 q1.2.2.1 q1.2.2.2)) (ws' := (wd_X6_stops cI cB cZ a_p1 a_p1_bytes p1_bytes p1_size q1.1 q1.2.1 q1.2.2.1 q1.2.2.2)) hx hb hml hown hts hK hA hl hS (c_X4_advance l D cI cB cZ a_p1 a_p1_bytes p1_bytes p1_size p1_next p1_start p1_token p1_number _ _ hq1) (cwV 0 hts gX6_stops_X4_advance rfl rfl rfl (by decide +kernel) ⟨Nat.le_of_ble_eq_true rfl, Nat.le_of_ble_eq_true rfl⟩) 0 rfl rfl [0, 1] rfl rfl rfl [.inr 0, .inr 1] rfl rfl rfl rfl (Nat.le_of_ble_eq_true rfl) dX6_stops_1 (fun H locs hS => ?_)
  refine lv_aload_n hx hb dX6_stops_4 rfl (lv_at hl 0 rfl) ?_
  refine s_getN (C := RX4) (T := TX4) (N := 6) hx hb hts inX4 hown hK hS 0 rfl rfl 4 (by decide) 27 rfl rfl rfl dX6_stops_5 ?_
  refine lv_iconst (v := (3 : Int32)) hx hb dX6_stops_8 (by decide) ?_
  refine lv_icmp_ne (tgt := 16) hx hb dX6_stops_9 (by decide) (fun c2 => ?_) (fun c2 => ?_)
  · replace h := s_no c2 h
    refine lv_iconst (v := (0 : Int32)) hx hb dX6_stops_16 (by decide) ?_
    obtain rfl := Option.some.inj h
    exact hend _ _ _ _ dX6_stops_17 (Or.inl rfl) hS
  replace h := s_yes c2 h
  refine lv_iconst (v := (1 : Int32)) hx hb dX6_stops_12 (by decide) ?_
  refine lv_goto (tgt := 17) hx hb dX6_stops_13 (by decide) ?_
  obtain rfl := Option.some.inj h
  exact hend _ _ _ _ dX6_stops_17 (Or.inr rfl) hS

-- InnTurned$Telling.wetItem(LInnTurned$Script;LInnTurned$House;)Z
def wd_X6_wetItem (cI cB cZ : ClassId) (a_p1 : Nat) (a_p1_bytes : Nat) (a_p2 : Nat) (a_p2_wets : Nat) (a_p2_guests : Nat) (a_p2_sights : Nat) (a_p2_remarks : Nat) (a_p2_marks : Nat) (a_p2_past : Nat)  (p1_bytes : (Nat → Int32)) (p1_size : Int32) (p1_next : Int32) (p1_start : Int32) (p1_token : Int32) (p1_number : Int32) (p2_wets : (Nat → Int32)) (p2_host : Int32) (p2_rooms : Int32) (p2_night : Int32) (p2_wheels : Int32) (p2_turned : Int32) : va_W := [(a_p1, .inr (2, [.ref a_p1_bytes, .int p1_size, .int p1_next, .int p1_start, .int p1_token, .int p1_number])), (a_p1_bytes, .inl (cB, 150, .inl p1_bytes)), (a_p2, .inr (0, [.ref a_p2_wets, .ref a_p2_guests, .ref a_p2_sights, .ref a_p2_remarks, .ref a_p2_marks, .ref a_p2_past, .int p2_host, .int p2_rooms, .int p2_night, .int p2_wheels, .int p2_turned])), (a_p2_wets, .inl (cI, 6, .inl p2_wets))]
abbrev rm_X6_wetItem : Room := { frames := 4, cells := 0, slots := 0, locals := 82 }
set_option maxRecDepth 20000 in
theorem inX4_X6_wetItem : ∀ w ∈ u_ws RX4 TX4 6, w ∈ wsX6_wetItem := by decide +kernel
def f_X6_wetItem_b26 (k_b2 : Int32 → Int32 → Int32 → Int32 → (Nat → Int32) → Int32 → Option (Int32 × Int32 × Int32 × Int32 × Int32 × (Nat → Int32)))  (p1_bytes : (Nat → Int32)) (p1_size : Int32) (p1_next : Int32) (p1_start : Int32) (p1_token : Int32) (p1_number : Int32) (p2_wets : (Nat → Int32)) (l2 : Int32) : Option (Int32 × Int32 × Int32 × Int32 × Int32 × (Nat → Int32)) := ((f_X6_isNumberWithin p1_token p1_number (0 : Int32) (4 : Int32)).bind fun q1 => (if q1 = 0 then some ((0 : Int32), p1_next, p1_start, p1_token, p1_number, p2_wets) else ((f_X1_setWet p2_wets l2 p1_number).bind fun q3 => k_b2 p1_next p1_start p1_token p1_number q3 (l2 + (1 : Int32)))))
set_option maxHeartbeats 4000000 in
set_option maxRecDepth 100000 in
theorem w_X6_wetItem_b26 {p : Program} {l : Launch} {e : Env} {s : State} {m : MethodId} {args : Array Value} {below : List Frame} {meth : Method} {c : Code} {A : Nat → Prop} {Q : State → Prop} {D : va_G} {cI cB cZ : ClassId} {a_p1 a_p1_bytes a_p2 a_p2_wets a_p2_guests a_p2_sights a_p2_remarks a_p2_marks a_p2_past : Nat} {p1_bytes : (Nat → Int32)} {p1_size : Int32} {p2_host : Int32} {p2_rooms : Int32} {p2_night : Int32} {p2_wheels : Int32} {p2_turned : Int32} (C0 : Cx p s m args c cX6_wetItem 3 RX6 wsX6_wetItem D (s_tys cI cB cZ) A) {rv : Int32 × Int32 × Int32 × Int32 × Int32 × (Nat → Int32)} (hend : ∀ (pc : Nat) (H : Heap) (locs : List Loc) (ls : Array Slot), decode cX6_wetItem pc = .ok (.ireturn, 1) → (rv.1 = 0 ∨ rv.1 = 1) → sS D vwCl A s.heap (wd_X6_wetItem cI cB cZ a_p1 a_p1_bytes a_p2 a_p2_wets a_p2_guests a_p2_sights a_p2_remarks a_p2_marks a_p2_past p1_bytes p1_size rv.2.1 rv.2.2.1 rv.2.2.2.1 rv.2.2.2.2.1 rv.2.2.2.2.2 p2_host p2_rooms p2_night p2_wheels p2_turned) H locs → W p l e rm_X6_wetItem s m args below meth c H locs 0 0 Q (F0 m pc ls [.int rv.1])) (k_b2 : Int32 → Int32 → Int32 → Int32 → (Nat → Int32) → Int32 → Option (Int32 × Int32 × Int32 × Int32 × Int32 × (Nat → Int32))) (hk_b2 : ∀ (p1_next : Int32) (p1_start : Int32) (p1_token : Int32) (p1_number : Int32) (p2_wets : (Nat → Int32)) (l2 : Int32) (H : Heap) (locs : List Loc) (ls : Array Slot), k_b2 p1_next p1_start p1_token p1_number p2_wets l2 = some rv → sS D vwCl A s.heap (wd_X6_wetItem cI cB cZ a_p1 a_p1_bytes a_p2 a_p2_wets a_p2_guests a_p2_sights a_p2_remarks a_p2_marks a_p2_past p1_bytes p1_size p1_next p1_start p1_token p1_number p2_wets p2_host p2_rooms p2_night p2_wheels p2_turned) H locs → lv_has ls 3 [(0, .ref a_p1), (1, .ref a_p2), (2, .int l2)] → W p l e rm_X6_wetItem s m args below meth c H locs 0 0 Q (F0 m 2 ls [])) : ∀ (p1_next : Int32) (p1_start : Int32) (p1_token : Int32) (p1_number : Int32) (p2_wets : (Nat → Int32)) (l2 : Int32) (H : Heap) (locs : List Loc) (ls : Array Slot), f_X6_wetItem_b26 k_b2 p1_bytes p1_size p1_next p1_start p1_token p1_number p2_wets l2 = some rv → sS D vwCl A s.heap (wd_X6_wetItem cI cB cZ a_p1 a_p1_bytes a_p2 a_p2_wets a_p2_guests a_p2_sights a_p2_remarks a_p2_marks a_p2_past p1_bytes p1_size p1_next p1_start p1_token p1_number p2_wets p2_host p2_rooms p2_night p2_wheels p2_turned) H locs → lv_has ls 3 [(0, .ref a_p1), (1, .ref a_p2), (2, .int l2)] → W p l e rm_X6_wetItem s m args below meth c H locs 0 0 Q (F0 m 26 ls []) := by
  obtain ⟨hx, hb, hml, hown, hts, hK, hA⟩ := id C0
  have inX4 : ∀ w ∈ u_ws RX4 TX4 6, w ∈ wsX6_wetItem := inX4_X6_wetItem
  intro p1_next p1_start p1_token p1_number p2_wets l2 H locs ls h hS hl
  unfold f_X6_wetItem_b26 at h
  refine lv_aload_n hx hb dX6_wetItem_26 rfl (lv_at hl 0 rfl) ?_
  refine lv_iconst (v := (0 : Int32)) hx hb dX6_wetItem_27 (by decide) ?_
  refine lv_iconst (v := (4 : Int32)) hx hb dX6_wetItem_28 (by decide) ?_
  obtain ⟨q1, hq1, h⟩ := s_bind h
  refine u_calliS (r := q1) (As := [.ref a_p1, .int (0 : Int32), .int (4 : Int32)]) (rest := []) (wc := (wd_X6_isNumberWithin cI cB cZ a_p1 a_p1_bytes p1_size p1_next p1_start p1_token p1_number)) hx hb hml hown hts hK hA hl hS (c_X6_isNumberWithin l D cI cB cZ a_p1 a_p1_bytes p1_size p1_next p1_start p1_token p1_number (0 : Int32) (4 : Int32) _ _ hq1) (va_cwS 3 hts gX6_wetItem_X6_isNumberWithin rfl rfl rfl (by decide +kernel) ⟨Nat.le_of_ble_eq_true rfl, Nat.le_of_ble_eq_true rfl⟩) [0] rfl rfl rfl rfl (Nat.le_of_ble_eq_true rfl) dX6_wetItem_29 (fun H locs hS => ?_)
  refine lv_if_ne (tgt := 37) hx hb dX6_wetItem_32 (by decide) (fun c2 => ?_) (fun c2 => ?_)
  · replace h := s_no c2 h
    refine lv_aload_n hx hb dX6_wetItem_37 rfl (lv_at hl 1 rfl) ?_
    refine lv_iload_n hx hb dX6_wetItem_38 rfl (lv_at hl 2 rfl) ?_
    refine lv_aload_n hx hb dX6_wetItem_39 rfl (lv_at hl 0 rfl) ?_
    refine s_getN (C := RX4) (T := TX4) (N := 6) hx hb hts inX4 hown hK hS 0 rfl rfl 5 (by decide) 28 rfl rfl rfl dX6_wetItem_40 ?_
    obtain ⟨q3, hq3, h⟩ := s_bind h
    refine r_callvV (As := [.int l2, .int p1_number]) (rest := []) (wc := (wd_X1_setWet cI cB cZ a_p2 a_p2_wets a_p2_guests a_p2_sights a_p2_remarks a_p2_marks a_p2_past p2_wets p2_host p2_rooms p2_night p2_wheels p2_turned)) (w1 := (wd_X1_setWet cI cB cZ a_p2 a_p2_wets a_p2_guests a_p2_sights a_p2_remarks a_p2_marks a_p2_past q3 p2_host p2_rooms p2_night p2_wheels p2_turned)) (ws' := (wd_X6_wetItem cI cB cZ a_p1 a_p1_bytes a_p2 a_p2_wets a_p2_guests a_p2_sights a_p2_remarks a_p2_marks a_p2_past p1_bytes p1_size p1_next p1_start p1_token p1_number q3 p2_host p2_rooms p2_night p2_wheels p2_turned)) hx hb hml hown hts hK hA hl hS (c_X1_setWet l D cI cB cZ a_p2 a_p2_wets a_p2_guests a_p2_sights a_p2_remarks a_p2_marks a_p2_past p2_wets p2_host p2_rooms p2_night p2_wheels p2_turned l2 p1_number _ _ hq3) (cwV 2 hts gX6_wetItem_X1_setWet rfl rfl rfl (by decide +kernel) ⟨Nat.le_of_ble_eq_true rfl, Nat.le_of_ble_eq_true rfl⟩) 2 rfl rfl [2, 3] rfl rfl rfl [.inl 0, .inl 1, .inr 0, .inr 1] rfl rfl rfl rfl (Nat.le_of_ble_eq_true rfl) dX6_wetItem_43 (fun H locs hS => ?_)
    refine lv_iinc (v := (l2 + (1 : Int32))) (lv' := [(2, .int (l2 + (1 : Int32))), (0, .ref a_p1), (1, .ref a_p2)]) hx hb dX6_wetItem_46 hl (k := 2) rfl rfl (by decide) rfl (fun ls hl => ?_)
    refine lv_goto (tgt := 2) hx hb dX6_wetItem_49 (by decide) ?_
    exact hk_b2 p1_next p1_start p1_token p1_number q3 (l2 + (1 : Int32)) _ _ _ h hS (lv_sub hl [1, 2, 0] rfl)
  replace h := s_yes c2 h
  refine lv_iconst (v := (0 : Int32)) hx hb dX6_wetItem_35 (by decide) ?_
  obtain rfl := Option.some.inj h
  exact hend _ _ _ _ dX6_wetItem_36 (Or.inl rfl) hS
def f_X6_wetItem_b2  (p1_bytes : (Nat → Int32)) (p1_size : Int32) : Nat → Int32 → Int32 → Int32 → Int32 → (Nat → Int32) → Int32 → Option (Int32 × Int32 × Int32 × Int32 × Int32 × (Nat → Int32))
  | 0, _, _, _, _, _, _ => none
  | fu + 1, p1_next, p1_start, p1_token, p1_number, p2_wets, l2 => (if (6 : Int32) ≤ l2 then ((f_X6_stops p1_bytes p1_size p1_next p1_start p1_token p1_number).bind fun q5 => (if q5.1 = 0 ∨ q5.1 = 1 then some (q5.1, q5.2.1, q5.2.2.1, q5.2.2.2.1, q5.2.2.2.2, p2_wets) else none)) else ((f_X4_advance p1_bytes p1_size p1_next p1_start p1_token p1_number).bind fun q7 => (if l2 ≤ 0 then f_X6_wetItem_b26 (f_X6_wetItem_b2 p1_bytes p1_size fu) p1_bytes p1_size q7.1 q7.2.1 q7.2.2.1 q7.2.2.2 p2_wets l2 else (if q7.2.2.1 = (3 : Int32) then some ((1 : Int32), q7.1, q7.2.1, q7.2.2.1, q7.2.2.2, p2_wets) else f_X6_wetItem_b26 (f_X6_wetItem_b2 p1_bytes p1_size fu) p1_bytes p1_size q7.1 q7.2.1 q7.2.2.1 q7.2.2.2 p2_wets l2))))
set_option maxHeartbeats 4000000 in
set_option maxRecDepth 100000 in
theorem w_X6_wetItem_b2 {p : Program} {l : Launch} {e : Env} {s : State} {m : MethodId} {args : Array Value} {below : List Frame} {meth : Method} {c : Code} {A : Nat → Prop} {Q : State → Prop} {D : va_G} {cI cB cZ : ClassId} {a_p1 a_p1_bytes a_p2 a_p2_wets a_p2_guests a_p2_sights a_p2_remarks a_p2_marks a_p2_past : Nat} {p1_bytes : (Nat → Int32)} {p1_size : Int32} {p2_host : Int32} {p2_rooms : Int32} {p2_night : Int32} {p2_wheels : Int32} {p2_turned : Int32} (C0 : Cx p s m args c cX6_wetItem 3 RX6 wsX6_wetItem D (s_tys cI cB cZ) A) {rv : Int32 × Int32 × Int32 × Int32 × Int32 × (Nat → Int32)} (hend : ∀ (pc : Nat) (H : Heap) (locs : List Loc) (ls : Array Slot), decode cX6_wetItem pc = .ok (.ireturn, 1) → (rv.1 = 0 ∨ rv.1 = 1) → sS D vwCl A s.heap (wd_X6_wetItem cI cB cZ a_p1 a_p1_bytes a_p2 a_p2_wets a_p2_guests a_p2_sights a_p2_remarks a_p2_marks a_p2_past p1_bytes p1_size rv.2.1 rv.2.2.1 rv.2.2.2.1 rv.2.2.2.2.1 rv.2.2.2.2.2 p2_host p2_rooms p2_night p2_wheels p2_turned) H locs → W p l e rm_X6_wetItem s m args below meth c H locs 0 0 Q (F0 m pc ls [.int rv.1])) : ∀ (fu : Nat) (p1_next : Int32) (p1_start : Int32) (p1_token : Int32) (p1_number : Int32) (p2_wets : (Nat → Int32)) (l2 : Int32) (H : Heap) (locs : List Loc) (ls : Array Slot), f_X6_wetItem_b2 p1_bytes p1_size fu p1_next p1_start p1_token p1_number p2_wets l2 = some rv → sS D vwCl A s.heap (wd_X6_wetItem cI cB cZ a_p1 a_p1_bytes a_p2 a_p2_wets a_p2_guests a_p2_sights a_p2_remarks a_p2_marks a_p2_past p1_bytes p1_size p1_next p1_start p1_token p1_number p2_wets p2_host p2_rooms p2_night p2_wheels p2_turned) H locs → lv_has ls 3 [(0, .ref a_p1), (1, .ref a_p2), (2, .int l2)] → W p l e rm_X6_wetItem s m args below meth c H locs 0 0 Q (F0 m 2 ls []) := by
  obtain ⟨hx, hb, hml, hown, hts, hK, hA⟩ := id C0
  have inX4 : ∀ w ∈ u_ws RX4 TX4 6, w ∈ wsX6_wetItem := inX4_X6_wetItem
  intro fu
  induction fu with
  | zero => intro p1_next p1_start p1_token p1_number p2_wets l2 H locs ls h; cases h
  | succ fu ih =>
    intro p1_next p1_start p1_token p1_number p2_wets l2 H locs ls h hS hl
    rw [f_X6_wetItem_b2] at h
    refine lv_iload_n hx hb dX6_wetItem_2 rfl (lv_at hl 2 rfl) ?_
    refine lv_bipush (v := (6 : Int32)) hx hb dX6_wetItem_3 (by decide) ?_
    refine lv_icmp_ge (tgt := 52) hx hb dX6_wetItem_5 (by decide) (fun c4 => ?_) (fun c4 => ?_)
    · replace h := s_yes c4 h
      refine lv_aload_n hx hb dX6_wetItem_52 rfl (lv_at hl 0 rfl) ?_
      obtain ⟨q5, hq5, h⟩ := s_bind h
      refine r_calliS (r := q5.1) (As := [.ref a_p1]) (rest := []) (wc := (wd_X6_stops cI cB cZ a_p1 a_p1_bytes p1_bytes p1_size p1_next p1_start p1_token p1_number)) (w1 := (wd_X6_stops cI cB cZ a_p1 a_p1_bytes p1_bytes p1_size q5.2.1 q5.2.2.1 q5.2.2.2.1 q5.2.2.2.2)) (ws' := (wd_X6_wetItem cI cB cZ a_p1 a_p1_bytes a_p2 a_p2_wets a_p2_guests a_p2_sights a_p2_remarks a_p2_marks a_p2_past p1_bytes p1_size q5.2.1 q5.2.2.1 q5.2.2.2.1 q5.2.2.2.2 p2_wets p2_host p2_rooms p2_night p2_wheels p2_turned)) hx hb hml hown hts hK hA hl hS (c_X6_stops l D cI cB cZ a_p1 a_p1_bytes p1_bytes p1_size p1_next p1_start p1_token p1_number _ _ hq5) (va_cwS 1 hts gX6_wetItem_X6_stops rfl rfl rfl (by decide +kernel) ⟨Nat.le_of_ble_eq_true rfl, Nat.le_of_ble_eq_true rfl⟩) [0, 1] rfl rfl rfl [.inr 0, .inr 1, .inl 2, .inl 3] rfl rfl rfl rfl (Nat.le_of_ble_eq_true rfl) dX6_wetItem_53 (fun H locs hS => ?_)
      obtain ⟨g6, h⟩ := s_guard h
      obtain rfl := Option.some.inj h
      exact hend _ _ _ _ dX6_wetItem_56 g6 hS
    replace h := s_no c4 h
    refine lv_aload_n hx hb dX6_wetItem_8 rfl (lv_at hl 0 rfl) ?_
    obtain ⟨q7, hq7, h⟩ := s_bind h
    refine r_callvV (As := []) (rest := []) (wc := (wd_X4_advance cI cB cZ a_p1 a_p1_bytes p1_bytes p1_size p1_next p1_start p1_token p1_number)) (w1 := (wd_X4_advance cI cB cZ a_p1 a_p1_bytes p1_bytes p1_size q7.1 q7.2.1 q7.2.2.1 q7.2.2.2)) (ws' := (wd_X6_wetItem cI cB cZ a_p1 a_p1_bytes a_p2 a_p2_wets a_p2_guests a_p2_sights a_p2_remarks a_p2_marks a_p2_past p1_bytes p1_size q7.1 q7.2.1 q7.2.2.1 q7.2.2.2 p2_wets p2_host p2_rooms p2_night p2_wheels p2_turned)) hx hb hml hown hts hK hA hl hS (c_X4_advance l D cI cB cZ a_p1 a_p1_bytes p1_bytes p1_size p1_next p1_start p1_token p1_number _ _ hq7) (cwV 0 hts gX6_wetItem_X4_advance rfl rfl rfl (by decide +kernel) ⟨Nat.le_of_ble_eq_true rfl, Nat.le_of_ble_eq_true rfl⟩) 0 rfl rfl [0, 1] rfl rfl rfl [.inr 0, .inr 1, .inl 2, .inl 3] rfl rfl rfl rfl (Nat.le_of_ble_eq_true rfl) dX6_wetItem_9 (fun H locs hS => ?_)
    refine lv_iload_n hx hb dX6_wetItem_12 rfl (lv_at hl 2 rfl) ?_
    refine lv_if_le (tgt := 26) hx hb dX6_wetItem_13 (by decide) (fun c8 => ?_) (fun c8 => ?_)
    · replace h := s_yes c8 h
      exact w_X6_wetItem_b26 C0 hend (f_X6_wetItem_b2 p1_bytes p1_size fu) ih q7.1 q7.2.1 q7.2.2.1 q7.2.2.2 p2_wets l2 _ _ _ h hS (lv_sub hl [0, 1, 2] rfl)
    replace h := s_no c8 h
    refine lv_aload_n hx hb dX6_wetItem_16 rfl (lv_at hl 0 rfl) ?_
    refine s_getN (C := RX4) (T := TX4) (N := 6) hx hb hts inX4 hown hK hS 0 rfl rfl 4 (by decide) 27 rfl rfl rfl dX6_wetItem_17 ?_
    refine lv_iconst (v := (3 : Int32)) hx hb dX6_wetItem_20 (by decide) ?_
    refine lv_icmp_ne (tgt := 26) hx hb dX6_wetItem_21 (by decide) (fun c9 => ?_) (fun c9 => ?_)
    · replace h := s_no c9 h
      exact w_X6_wetItem_b26 C0 hend (f_X6_wetItem_b2 p1_bytes p1_size fu) ih q7.1 q7.2.1 q7.2.2.1 q7.2.2.2 p2_wets l2 _ _ _ h hS (lv_sub hl [0, 1, 2] rfl)
    replace h := s_yes c9 h
    refine lv_iconst (v := (1 : Int32)) hx hb dX6_wetItem_24 (by decide) ?_
    obtain rfl := Option.some.inj h
    exact hend _ _ _ _ dX6_wetItem_25 (Or.inr rfl) hS
def f_X6_wetItem  (p1_bytes : (Nat → Int32)) (p1_size : Int32) (p1_next : Int32) (p1_start : Int32) (p1_token : Int32) (p1_number : Int32) (p2_wets : (Nat → Int32)) : Option (Int32 × Int32 × Int32 × Int32 × Int32 × (Nat → Int32)) := f_X6_wetItem_b2  p1_bytes p1_size s_fuel p1_next p1_start p1_token p1_number p2_wets (0 : Int32)
set_option maxHeartbeats 4000000 in
set_option maxRecDepth 100000 in
theorem c_X6_wetItem (l : Launch) (D : va_G) (cI cB cZ : ClassId) (a_p1 : Nat) (a_p1_bytes : Nat) (a_p2 : Nat) (a_p2_wets : Nat) (a_p2_guests : Nat) (a_p2_sights : Nat) (a_p2_remarks : Nat) (a_p2_marks : Nat) (a_p2_past : Nat) (p1_bytes : (Nat → Int32)) (p1_size : Int32) (p1_next : Int32) (p1_start : Int32) (p1_token : Int32) (p1_number : Int32) (p2_wets : (Nat → Int32)) (p2_host : Int32) (p2_rooms : Int32) (p2_night : Int32) (p2_wheels : Int32) (p2_turned : Int32) (rv : Int32 × Int32 × Int32 × Int32 × Int32 × (Nat → Int32)) (sz : Nat) (hf : f_X6_wetItem p1_bytes p1_size p1_next p1_start p1_token p1_number p2_wets = some rv) : Met l yX6_wetItem wsX6_wetItem rm_X6_wetItem (sPc D vwCl (s_tys cI cB cZ) [.ref a_p1, .ref a_p2] (wd_X6_wetItem cI cB cZ a_p1 a_p1_bytes a_p2 a_p2_wets a_p2_guests a_p2_sights a_p2_remarks a_p2_marks a_p2_past p1_bytes p1_size p1_next p1_start p1_token p1_number p2_wets p2_host p2_rooms p2_night p2_wheels p2_turned) sz) (sQi D vwCl (wd_X6_wetItem cI cB cZ a_p1 a_p1_bytes a_p2 a_p2_wets a_p2_guests a_p2_sights a_p2_remarks a_p2_marks a_p2_past p1_bytes p1_size p1_next p1_start p1_token p1_number p2_wets p2_host p2_rooms p2_night p2_wheels p2_turned) (wd_X6_wetItem cI cB cZ a_p1 a_p1_bytes a_p2 a_p2_wets a_p2_guests a_p2_sights a_p2_remarks a_p2_marks a_p2_past p1_bytes p1_size rv.2.1 rv.2.2.1 rv.2.2.2.1 rv.2.2.2.2.1 rv.2.2.2.2.2 p2_host p2_rooms p2_night p2_wheels p2_turned) sz rv.1) 0 0 (va_A (wd_X6_wetItem cI cB cZ a_p1 a_p1_bytes a_p2 a_p2_wets a_p2_guests a_p2_sights a_p2_remarks a_p2_marks a_p2_past p1_bytes p1_size p1_next p1_start p1_token p1_number p2_wets p2_host p2_rooms p2_night p2_wheels p2_turned) sz) := by
  refine s_enter_z (cc := cX6_wetItem) (nL := 3) (r := rv.1) (by decide) rfl (Nat.le_of_ble_eq_true rfl) ?_
  intro p e s m args below meth c A Q C0 hend ls hl hS
  have h := hf
  clear hf
  replace hl : lv_has ls 3 [(0, .ref a_p1), (1, .ref a_p2)] := hl
  unfold f_X6_wetItem at h
  obtain ⟨hx, hb, hml, hown, hts, hK, hA⟩ := id C0
  have inX4 : ∀ w ∈ u_ws RX4 TX4 6, w ∈ wsX6_wetItem := inX4_X6_wetItem
  refine lv_iconst (v := (0 : Int32)) hx hb dX6_wetItem_0 (by decide) ?_
  refine lv_istore_n (lv' := [(2, .int (0 : Int32)), (0, .ref a_p1), (1, .ref a_p2)]) hx hb dX6_wetItem_1 rfl hl (by decide) rfl (fun ls hl => ?_)
  exact w_X6_wetItem_b2 C0 hend  s_fuel p1_next p1_start p1_token p1_number p2_wets (0 : Int32) _ _ _ h hS (lv_sub hl [1, 2, 0] rfl)

-- InnTurned$Telling.guestItem(LInnTurned$Script;LInnTurned$House;)Z
def wd_X6_guestItem (cI cB cZ : ClassId) (a_p1 : Nat) (a_p1_bytes : Nat) (a_p2 : Nat) (a_p2_wets : Nat) (a_p2_guests : Nat) (a_p2_guests_cells : Nat) (a_p2_sights : Nat) (a_p2_remarks : Nat) (a_p2_marks : Nat) (a_p2_past : Nat)  (p1_bytes : (Nat → Int32)) (p1_size : Int32) (p1_next : Int32) (p1_start : Int32) (p1_token : Int32) (p1_number : Int32) (p2_guests_cells : (Nat → Int32)) (p2_guests_rows : Int32) (p2_host : Int32) (p2_rooms : Int32) (p2_night : Int32) (p2_wheels : Int32) (p2_turned : Int32) : va_W := [(a_p1, .inr (2, [.ref a_p1_bytes, .int p1_size, .int p1_next, .int p1_start, .int p1_token, .int p1_number])), (a_p1_bytes, .inl (cB, 150, .inl p1_bytes)), (a_p2, .inr (0, [.ref a_p2_wets, .ref a_p2_guests, .ref a_p2_sights, .ref a_p2_remarks, .ref a_p2_marks, .ref a_p2_past, .int p2_host, .int p2_rooms, .int p2_night, .int p2_wheels, .int p2_turned])), (a_p2_guests, .inr (3, [.int 4, .int 7, .ref a_p2_guests_cells, .int p2_guests_rows])), (a_p2_guests_cells, .inl (cI, 28, .inl p2_guests_cells))]
abbrev rm_X6_guestItem : Room := { frames := 4, cells := 0, slots := 0, locals := 84 }
set_option maxRecDepth 20000 in
theorem inX1_X6_guestItem : ∀ w ∈ u_ws RX1 TX1 11, w ∈ wsX6_guestItem := by decide +kernel
def f_X6_guestItem  (p1_bytes : (Nat → Int32)) (p1_size : Int32) (p1_next : Int32) (p1_start : Int32) (p1_token : Int32) (p1_number : Int32) (p2_guests_cells : (Nat → Int32)) (p2_guests_rows : Int32) : Option (Int32 × Int32 × Int32 × Int32 × Int32 × (Nat → Int32) × Int32) := ((f_X5_isFull (7 : Int32) p2_guests_rows).bind fun q1 => (if q1 = 0 then ((f_X6_numberWithin p1_bytes p1_size p1_next p1_start p1_token p1_number (0 : Int32) (5 : Int32)).bind fun q3 => (if 0 ≤ q3.1 then ((f_X6_numberWithin p1_bytes p1_size q3.2.1 q3.2.2.1 q3.2.2.2.1 q3.2.2.2.2 (0 : Int32) (9 : Int32)).bind fun q5 => (if 0 ≤ q5.1 then ((f_X1_welcome p2_guests_cells p2_guests_rows q3.1 q5.1).bind fun q7 => ((f_X6_stops p1_bytes p1_size q5.2.1 q5.2.2.1 q5.2.2.2.1 q5.2.2.2.2).bind fun q8 => (if q8.1 = 0 ∨ q8.1 = 1 then some (q8.1, q8.2.1, q8.2.2.1, q8.2.2.2.1, q8.2.2.2.2, q7.2.1, q7.2.2) else none))) else some ((0 : Int32), q5.2.1, q5.2.2.1, q5.2.2.2.1, q5.2.2.2.2, p2_guests_cells, p2_guests_rows))) else some ((0 : Int32), q3.2.1, q3.2.2.1, q3.2.2.2.1, q3.2.2.2.2, p2_guests_cells, p2_guests_rows))) else some ((0 : Int32), p1_next, p1_start, p1_token, p1_number, p2_guests_cells, p2_guests_rows)))
set_option maxHeartbeats 4000000 in
set_option maxRecDepth 100000 in
theorem c_X6_guestItem (l : Launch) (D : va_G) (cI cB cZ : ClassId) (a_p1 : Nat) (a_p1_bytes : Nat) (a_p2 : Nat) (a_p2_wets : Nat) (a_p2_guests : Nat) (a_p2_guests_cells : Nat) (a_p2_sights : Nat) (a_p2_remarks : Nat) (a_p2_marks : Nat) (a_p2_past : Nat) (p1_bytes : (Nat → Int32)) (p1_size : Int32) (p1_next : Int32) (p1_start : Int32) (p1_token : Int32) (p1_number : Int32) (p2_guests_cells : (Nat → Int32)) (p2_guests_rows : Int32) (p2_host : Int32) (p2_rooms : Int32) (p2_night : Int32) (p2_wheels : Int32) (p2_turned : Int32) (rv : Int32 × Int32 × Int32 × Int32 × Int32 × (Nat → Int32) × Int32) (sz : Nat) (hf : f_X6_guestItem p1_bytes p1_size p1_next p1_start p1_token p1_number p2_guests_cells p2_guests_rows = some rv) : Met l yX6_guestItem wsX6_guestItem rm_X6_guestItem (sPc D vwCl (s_tys cI cB cZ) [.ref a_p1, .ref a_p2] (wd_X6_guestItem cI cB cZ a_p1 a_p1_bytes a_p2 a_p2_wets a_p2_guests a_p2_guests_cells a_p2_sights a_p2_remarks a_p2_marks a_p2_past p1_bytes p1_size p1_next p1_start p1_token p1_number p2_guests_cells p2_guests_rows p2_host p2_rooms p2_night p2_wheels p2_turned) sz) (sQi D vwCl (wd_X6_guestItem cI cB cZ a_p1 a_p1_bytes a_p2 a_p2_wets a_p2_guests a_p2_guests_cells a_p2_sights a_p2_remarks a_p2_marks a_p2_past p1_bytes p1_size p1_next p1_start p1_token p1_number p2_guests_cells p2_guests_rows p2_host p2_rooms p2_night p2_wheels p2_turned) (wd_X6_guestItem cI cB cZ a_p1 a_p1_bytes a_p2 a_p2_wets a_p2_guests a_p2_guests_cells a_p2_sights a_p2_remarks a_p2_marks a_p2_past p1_bytes p1_size rv.2.1 rv.2.2.1 rv.2.2.2.1 rv.2.2.2.2.1 rv.2.2.2.2.2.1 rv.2.2.2.2.2.2 p2_host p2_rooms p2_night p2_wheels p2_turned) sz rv.1) 0 0 (va_A (wd_X6_guestItem cI cB cZ a_p1 a_p1_bytes a_p2 a_p2_wets a_p2_guests a_p2_guests_cells a_p2_sights a_p2_remarks a_p2_marks a_p2_past p1_bytes p1_size p1_next p1_start p1_token p1_number p2_guests_cells p2_guests_rows p2_host p2_rooms p2_night p2_wheels p2_turned) sz) := by
  refine s_enter_z (cc := cX6_guestItem) (nL := 4) (r := rv.1) (by decide) rfl (Nat.le_of_ble_eq_true rfl) ?_
  intro p e s m args below meth c A Q C0 hend ls hl hS
  have h := hf
  clear hf
  replace hl : lv_has ls 4 [(0, .ref a_p1), (1, .ref a_p2)] := hl
  unfold f_X6_guestItem at h
  obtain ⟨hx, hb, hml, hown, hts, hK, hA⟩ := id C0
  have inX1 : ∀ w ∈ u_ws RX1 TX1 11, w ∈ wsX6_guestItem := inX1_X6_guestItem
  refine lv_aload_n hx hb dX6_guestItem_0 rfl (lv_at hl 1 rfl) ?_
  refine s_getN (C := RX1) (T := TX1) (N := 11) hx hb hts inX1 hown hK hS 2 rfl rfl 1 (by decide) 8 rfl rfl rfl dX6_guestItem_1 ?_
  obtain ⟨q1, hq1, h⟩ := s_bind h
  refine u_calliV (r := q1) (As := []) (rest := []) (wc := (wd_X5_isFull cI cB cZ a_p2_guests a_p2_guests_cells (4 : Int32) (7 : Int32) p2_guests_rows)) hx hb hml hown hts hK hA hl hS (c_X5_isFull l D cI cB cZ a_p2_guests a_p2_guests_cells (4 : Int32) (7 : Int32) p2_guests_rows _ _ hq1) (cwV 0 hts gX6_guestItem_X5_isFull rfl rfl rfl (by decide +kernel) ⟨Nat.le_of_ble_eq_true rfl, Nat.le_of_ble_eq_true rfl⟩) 3 rfl rfl [3] rfl rfl rfl rfl (Nat.le_of_ble_eq_true rfl) dX6_guestItem_4 (fun H locs hS => ?_)
  refine lv_if_eq (tgt := 12) hx hb dX6_guestItem_7 (by decide) (fun c2 => ?_) (fun c2 => ?_)
  · replace h := s_yes c2 h
    refine lv_aload_n hx hb dX6_guestItem_12 rfl (lv_at hl 0 rfl) ?_
    refine lv_iconst (v := (0 : Int32)) hx hb dX6_guestItem_13 (by decide) ?_
    refine lv_iconst (v := (5 : Int32)) hx hb dX6_guestItem_14 (by decide) ?_
    obtain ⟨q3, hq3, h⟩ := s_bind h
    refine r_calliS (r := q3.1) (As := [.ref a_p1, .int (0 : Int32), .int (5 : Int32)]) (rest := []) (wc := (wd_X6_numberWithin cI cB cZ a_p1 a_p1_bytes p1_bytes p1_size p1_next p1_start p1_token p1_number)) (w1 := (wd_X6_numberWithin cI cB cZ a_p1 a_p1_bytes p1_bytes p1_size q3.2.1 q3.2.2.1 q3.2.2.2.1 q3.2.2.2.2)) (ws' := (wd_X6_guestItem cI cB cZ a_p1 a_p1_bytes a_p2 a_p2_wets a_p2_guests a_p2_guests_cells a_p2_sights a_p2_remarks a_p2_marks a_p2_past p1_bytes p1_size q3.2.1 q3.2.2.1 q3.2.2.2.1 q3.2.2.2.2 p2_guests_cells p2_guests_rows p2_host p2_rooms p2_night p2_wheels p2_turned)) hx hb hml hown hts hK hA hl hS (c_X6_numberWithin l D cI cB cZ a_p1 a_p1_bytes p1_bytes p1_size p1_next p1_start p1_token p1_number (0 : Int32) (5 : Int32) _ _ hq3) (va_cwS 3 hts gX6_guestItem_X6_numberWithin rfl rfl rfl (by decide +kernel) ⟨Nat.le_of_ble_eq_true rfl, Nat.le_of_ble_eq_true rfl⟩) [0, 1] rfl rfl rfl [.inr 0, .inr 1, .inl 2, .inl 3, .inl 4] rfl rfl rfl rfl (Nat.le_of_ble_eq_true rfl) dX6_guestItem_15 (fun H locs hS => ?_)
    refine lv_istore_n (lv' := [(2, .int q3.1), (0, .ref a_p1), (1, .ref a_p2)]) hx hb dX6_guestItem_18 rfl hl (by decide) rfl (fun ls hl => ?_)
    refine lv_iload_n hx hb dX6_guestItem_19 rfl (lv_at hl 0 rfl) ?_
    refine lv_if_ge (tgt := 25) hx hb dX6_guestItem_20 (by decide) (fun c4 => ?_) (fun c4 => ?_)
    · replace h := s_yes c4 h
      refine lv_aload_n hx hb dX6_guestItem_25 rfl (lv_at hl 1 rfl) ?_
      refine lv_iconst (v := (0 : Int32)) hx hb dX6_guestItem_26 (by decide) ?_
      refine lv_bipush (v := (9 : Int32)) hx hb dX6_guestItem_27 (by decide) ?_
      obtain ⟨q5, hq5, h⟩ := s_bind h
      refine r_calliS (r := q5.1) (As := [.ref a_p1, .int (0 : Int32), .int (9 : Int32)]) (rest := []) (wc := (wd_X6_numberWithin cI cB cZ a_p1 a_p1_bytes p1_bytes p1_size q3.2.1 q3.2.2.1 q3.2.2.2.1 q3.2.2.2.2)) (w1 := (wd_X6_numberWithin cI cB cZ a_p1 a_p1_bytes p1_bytes p1_size q5.2.1 q5.2.2.1 q5.2.2.2.1 q5.2.2.2.2)) (ws' := (wd_X6_guestItem cI cB cZ a_p1 a_p1_bytes a_p2 a_p2_wets a_p2_guests a_p2_guests_cells a_p2_sights a_p2_remarks a_p2_marks a_p2_past p1_bytes p1_size q5.2.1 q5.2.2.1 q5.2.2.2.1 q5.2.2.2.2 p2_guests_cells p2_guests_rows p2_host p2_rooms p2_night p2_wheels p2_turned)) hx hb hml hown hts hK hA hl hS (c_X6_numberWithin l D cI cB cZ a_p1 a_p1_bytes p1_bytes p1_size q3.2.1 q3.2.2.1 q3.2.2.2.1 q3.2.2.2.2 (0 : Int32) (9 : Int32) _ _ hq5) (va_cwS 3 hts gX6_guestItem_X6_numberWithin rfl rfl rfl (by decide +kernel) ⟨Nat.le_of_ble_eq_true rfl, Nat.le_of_ble_eq_true rfl⟩) [0, 1] rfl rfl rfl [.inr 0, .inr 1, .inl 2, .inl 3, .inl 4] rfl rfl rfl rfl (Nat.le_of_ble_eq_true rfl) dX6_guestItem_29 (fun H locs hS => ?_)
      refine lv_istore_n (lv' := [(3, .int q5.1), (2, .int q3.1), (0, .ref a_p1), (1, .ref a_p2)]) hx hb dX6_guestItem_32 rfl hl (by decide) rfl (fun ls hl => ?_)
      refine lv_iload_n hx hb dX6_guestItem_33 rfl (lv_at hl 0 rfl) ?_
      refine lv_if_ge (tgt := 39) hx hb dX6_guestItem_34 (by decide) (fun c6 => ?_) (fun c6 => ?_)
      · replace h := s_yes c6 h
        refine lv_aload_n hx hb dX6_guestItem_39 rfl (lv_at hl 3 rfl) ?_
        refine lv_iload_n hx hb dX6_guestItem_40 rfl (lv_at hl 1 rfl) ?_
        refine lv_iload_n hx hb dX6_guestItem_41 rfl (lv_at hl 0 rfl) ?_
        obtain ⟨q7, hq7, h⟩ := s_bind h
        refine r_calliV (r := q7.1) (As := [.int q3.1, .int q5.1]) (rest := []) (wc := (wd_X1_welcome cI cB cZ a_p2 a_p2_wets a_p2_guests a_p2_guests_cells a_p2_sights a_p2_remarks a_p2_marks a_p2_past p2_guests_cells p2_guests_rows p2_host p2_rooms p2_night p2_wheels p2_turned)) (w1 := (wd_X1_welcome cI cB cZ a_p2 a_p2_wets a_p2_guests a_p2_guests_cells a_p2_sights a_p2_remarks a_p2_marks a_p2_past q7.2.1 q7.2.2 p2_host p2_rooms p2_night p2_wheels p2_turned)) (ws' := (wd_X6_guestItem cI cB cZ a_p1 a_p1_bytes a_p2 a_p2_wets a_p2_guests a_p2_guests_cells a_p2_sights a_p2_remarks a_p2_marks a_p2_past p1_bytes p1_size q5.2.1 q5.2.2.1 q5.2.2.2.1 q5.2.2.2.2 q7.2.1 q7.2.2 p2_host p2_rooms p2_night p2_wheels p2_turned)) hx hb hml hown hts hK hA hl hS (c_X1_welcome l D cI cB cZ a_p2 a_p2_wets a_p2_guests a_p2_guests_cells a_p2_sights a_p2_remarks a_p2_marks a_p2_past p2_guests_cells p2_guests_rows p2_host p2_rooms p2_night p2_wheels p2_turned q3.1 q5.1 _ _ hq7) (cwV 2 hts gX6_guestItem_X1_welcome rfl rfl rfl (by decide +kernel) ⟨Nat.le_of_ble_eq_true rfl, Nat.le_of_ble_eq_true rfl⟩) 2 rfl rfl [2, 3, 4] rfl rfl rfl [.inl 0, .inl 1, .inr 0, .inr 1, .inr 2] rfl rfl rfl rfl (Nat.le_of_ble_eq_true rfl) dX6_guestItem_42 (fun H locs hS => ?_)
        refine lv_pop hx hb dX6_guestItem_45 rfl ?_
        refine lv_aload_n hx hb dX6_guestItem_46 rfl (lv_at hl 2 rfl) ?_
        obtain ⟨q8, hq8, h⟩ := s_bind h
        refine r_calliS (r := q8.1) (As := [.ref a_p1]) (rest := []) (wc := (wd_X6_stops cI cB cZ a_p1 a_p1_bytes p1_bytes p1_size q5.2.1 q5.2.2.1 q5.2.2.2.1 q5.2.2.2.2)) (w1 := (wd_X6_stops cI cB cZ a_p1 a_p1_bytes p1_bytes p1_size q8.2.1 q8.2.2.1 q8.2.2.2.1 q8.2.2.2.2)) (ws' := (wd_X6_guestItem cI cB cZ a_p1 a_p1_bytes a_p2 a_p2_wets a_p2_guests a_p2_guests_cells a_p2_sights a_p2_remarks a_p2_marks a_p2_past p1_bytes p1_size q8.2.1 q8.2.2.1 q8.2.2.2.1 q8.2.2.2.2 q7.2.1 q7.2.2 p2_host p2_rooms p2_night p2_wheels p2_turned)) hx hb hml hown hts hK hA hl hS (c_X6_stops l D cI cB cZ a_p1 a_p1_bytes p1_bytes p1_size q5.2.1 q5.2.2.1 q5.2.2.2.1 q5.2.2.2.2 _ _ hq8) (va_cwS 1 hts gX6_guestItem_X6_stops rfl rfl rfl (by decide +kernel) ⟨Nat.le_of_ble_eq_true rfl, Nat.le_of_ble_eq_true rfl⟩) [0, 1] rfl rfl rfl [.inr 0, .inr 1, .inl 2, .inl 3, .inl 4] rfl rfl rfl rfl (Nat.le_of_ble_eq_true rfl) dX6_guestItem_47 (fun H locs hS => ?_)
        obtain ⟨g9, h⟩ := s_guard h
        obtain rfl := Option.some.inj h
        exact hend _ _ _ _ dX6_guestItem_50 g9 hS
      replace h := s_no c6 h
      refine lv_iconst (v := (0 : Int32)) hx hb dX6_guestItem_37 (by decide) ?_
      obtain rfl := Option.some.inj h
      exact hend _ _ _ _ dX6_guestItem_38 (Or.inl rfl) hS
    replace h := s_no c4 h
    refine lv_iconst (v := (0 : Int32)) hx hb dX6_guestItem_23 (by decide) ?_
    obtain rfl := Option.some.inj h
    exact hend _ _ _ _ dX6_guestItem_24 (Or.inl rfl) hS
  replace h := s_no c2 h
  refine lv_iconst (v := (0 : Int32)) hx hb dX6_guestItem_10 (by decide) ?_
  obtain rfl := Option.some.inj h
  exact hend _ _ _ _ dX6_guestItem_11 (Or.inl rfl) hS

-- InnTurned$Telling.comeItem(LInnTurned$Script;LInnTurned$House;)Z
def wd_X6_comeItem (cI cB cZ : ClassId) (a_p1 : Nat) (a_p1_bytes : Nat) (a_p2 : Nat) (a_p2_wets : Nat) (a_p2_guests : Nat) (a_p2_guests_cells : Nat) (a_p2_sights : Nat) (a_p2_remarks : Nat) (a_p2_marks : Nat) (a_p2_past : Nat)  (p1_bytes : (Nat → Int32)) (p1_size : Int32) (p1_next : Int32) (p1_start : Int32) (p1_token : Int32) (p1_number : Int32) (p2_wets : (Nat → Int32)) (p2_guests_cells : (Nat → Int32)) (p2_guests_rows : Int32) (p2_host : Int32) (p2_rooms : Int32) (p2_night : Int32) (p2_wheels : Int32) (p2_turned : Int32) : va_W := [(a_p1, .inr (2, [.ref a_p1_bytes, .int p1_size, .int p1_next, .int p1_start, .int p1_token, .int p1_number])), (a_p1_bytes, .inl (cB, 150, .inl p1_bytes)), (a_p2, .inr (0, [.ref a_p2_wets, .ref a_p2_guests, .ref a_p2_sights, .ref a_p2_remarks, .ref a_p2_marks, .ref a_p2_past, .int p2_host, .int p2_rooms, .int p2_night, .int p2_wheels, .int p2_turned])), (a_p2_wets, .inl (cI, 6, .inl p2_wets)), (a_p2_guests, .inr (3, [.int 4, .int 7, .ref a_p2_guests_cells, .int p2_guests_rows])), (a_p2_guests_cells, .inl (cI, 28, .inl p2_guests_cells))]
abbrev rm_X6_comeItem : Room := { frames := 5, cells := 0, slots := 0, locals := 109 }
set_option maxRecDepth 20000 in
theorem inX1_X6_comeItem : ∀ w ∈ u_ws RX1 TX1 11, w ∈ wsX6_comeItem := by decide +kernel
set_option maxRecDepth 20000 in
theorem inX5_X6_comeItem : ∀ w ∈ u_ws RX5 TX5 4, w ∈ wsX6_comeItem := by decide +kernel
def f_X6_comeItem  (p1_bytes : (Nat → Int32)) (p1_size : Int32) (p2_wets : (Nat → Int32)) (p2_guests_rows : Int32) (p2_host : Int32) (p2_rooms : Int32) (p2_night : Int32) (p1_next : Int32) (p1_start : Int32) (p1_token : Int32) (p1_number : Int32) (p2_guests_cells : (Nat → Int32)) (p2_wheels : Int32) (p2_turned : Int32) : Option (Int32 × Int32 × Int32 × Int32 × Int32 × (Nat → Int32) × Int32 × Int32) := ((f_X6_numberWithin p1_bytes p1_size p1_next p1_start p1_token p1_number (0 : Int32) (p2_guests_rows - (1 : Int32))).bind fun q1 => (if q1.1 < 0 then some ((0 : Int32), q1.2.1, q1.2.2.1, q1.2.2.2.1, q1.2.2.2.2, p2_guests_cells, p2_wheels, p2_turned) else ((f_X1_isIn p2_guests_cells p2_guests_rows q1.1).bind fun q3 => (if q3 = 0 then ((f_X1_arrive p2_wets p2_guests_rows p2_host p2_rooms p2_night p2_guests_cells p2_wheels p2_turned q1.1).bind fun q5 => ((f_X6_stops p1_bytes p1_size q1.2.1 q1.2.2.1 q1.2.2.2.1 q1.2.2.2.2).bind fun q6 => (if q6.1 = 0 ∨ q6.1 = 1 then some (q6.1, q6.2.1, q6.2.2.1, q6.2.2.2.1, q6.2.2.2.2, q5.2.1, q5.2.2.1, q5.2.2.2) else none))) else some ((0 : Int32), q1.2.1, q1.2.2.1, q1.2.2.2.1, q1.2.2.2.2, p2_guests_cells, p2_wheels, p2_turned)))))
set_option maxHeartbeats 4000000 in
set_option maxRecDepth 100000 in
theorem c_X6_comeItem (l : Launch) (D : va_G) (cI cB cZ : ClassId) (a_p1 : Nat) (a_p1_bytes : Nat) (a_p2 : Nat) (a_p2_wets : Nat) (a_p2_guests : Nat) (a_p2_guests_cells : Nat) (a_p2_sights : Nat) (a_p2_remarks : Nat) (a_p2_marks : Nat) (a_p2_past : Nat) (p1_bytes : (Nat → Int32)) (p1_size : Int32) (p1_next : Int32) (p1_start : Int32) (p1_token : Int32) (p1_number : Int32) (p2_wets : (Nat → Int32)) (p2_guests_cells : (Nat → Int32)) (p2_guests_rows : Int32) (p2_host : Int32) (p2_rooms : Int32) (p2_night : Int32) (p2_wheels : Int32) (p2_turned : Int32) (rv : Int32 × Int32 × Int32 × Int32 × Int32 × (Nat → Int32) × Int32 × Int32) (sz : Nat) (hf : f_X6_comeItem p1_bytes p1_size p2_wets p2_guests_rows p2_host p2_rooms p2_night p1_next p1_start p1_token p1_number p2_guests_cells p2_wheels p2_turned = some rv) : Met l yX6_comeItem wsX6_comeItem rm_X6_comeItem (sPc D vwCl (s_tys cI cB cZ) [.ref a_p1, .ref a_p2] (wd_X6_comeItem cI cB cZ a_p1 a_p1_bytes a_p2 a_p2_wets a_p2_guests a_p2_guests_cells a_p2_sights a_p2_remarks a_p2_marks a_p2_past p1_bytes p1_size p1_next p1_start p1_token p1_number p2_wets p2_guests_cells p2_guests_rows p2_host p2_rooms p2_night p2_wheels p2_turned) sz) (sQi D vwCl (wd_X6_comeItem cI cB cZ a_p1 a_p1_bytes a_p2 a_p2_wets a_p2_guests a_p2_guests_cells a_p2_sights a_p2_remarks a_p2_marks a_p2_past p1_bytes p1_size p1_next p1_start p1_token p1_number p2_wets p2_guests_cells p2_guests_rows p2_host p2_rooms p2_night p2_wheels p2_turned) (wd_X6_comeItem cI cB cZ a_p1 a_p1_bytes a_p2 a_p2_wets a_p2_guests a_p2_guests_cells a_p2_sights a_p2_remarks a_p2_marks a_p2_past p1_bytes p1_size rv.2.1 rv.2.2.1 rv.2.2.2.1 rv.2.2.2.2.1 p2_wets rv.2.2.2.2.2.1 p2_guests_rows p2_host p2_rooms p2_night rv.2.2.2.2.2.2.1 rv.2.2.2.2.2.2.2) sz rv.1) 0 0 (va_A (wd_X6_comeItem cI cB cZ a_p1 a_p1_bytes a_p2 a_p2_wets a_p2_guests a_p2_guests_cells a_p2_sights a_p2_remarks a_p2_marks a_p2_past p1_bytes p1_size p1_next p1_start p1_token p1_number p2_wets p2_guests_cells p2_guests_rows p2_host p2_rooms p2_night p2_wheels p2_turned) sz) := by
  refine s_enter_z (cc := cX6_comeItem) (nL := 3) (r := rv.1) (by decide) rfl (Nat.le_of_ble_eq_true rfl) ?_
  intro p e s m args below meth c A Q C0 hend ls hl hS
  have h := hf
  clear hf
  replace hl : lv_has ls 3 [(0, .ref a_p1), (1, .ref a_p2)] := hl
  unfold f_X6_comeItem at h
  obtain ⟨hx, hb, hml, hown, hts, hK, hA⟩ := id C0
  have inX1 : ∀ w ∈ u_ws RX1 TX1 11, w ∈ wsX6_comeItem := inX1_X6_comeItem
  have inX5 : ∀ w ∈ u_ws RX5 TX5 4, w ∈ wsX6_comeItem := inX5_X6_comeItem
  refine lv_aload_n hx hb dX6_comeItem_0 rfl (lv_at hl 0 rfl) ?_
  refine lv_iconst (v := (0 : Int32)) hx hb dX6_comeItem_1 (by decide) ?_
  refine lv_aload_n hx hb dX6_comeItem_2 rfl (lv_at hl 1 rfl) ?_
  refine s_getN (C := RX1) (T := TX1) (N := 11) hx hb hts inX1 hown hK hS 2 rfl rfl 1 (by decide) 8 rfl rfl rfl dX6_comeItem_3 ?_
  refine s_getN (C := RX5) (T := TX5) (N := 4) hx hb hts inX5 hown hK hS 4 rfl rfl 3 (by decide) 3 rfl rfl rfl dX6_comeItem_6 ?_
  refine lv_iconst (v := (1 : Int32)) hx hb dX6_comeItem_9 (by decide) ?_
  refine lv_isub hx hb dX6_comeItem_10 ?_
  obtain ⟨q1, hq1, h⟩ := s_bind h
  refine r_calliS (r := q1.1) (As := [.ref a_p1, .int (0 : Int32), .int (p2_guests_rows - (1 : Int32))]) (rest := []) (wc := (wd_X6_numberWithin cI cB cZ a_p1 a_p1_bytes p1_bytes p1_size p1_next p1_start p1_token p1_number)) (w1 := (wd_X6_numberWithin cI cB cZ a_p1 a_p1_bytes p1_bytes p1_size q1.2.1 q1.2.2.1 q1.2.2.2.1 q1.2.2.2.2)) (ws' := (wd_X6_comeItem cI cB cZ a_p1 a_p1_bytes a_p2 a_p2_wets a_p2_guests a_p2_guests_cells a_p2_sights a_p2_remarks a_p2_marks a_p2_past p1_bytes p1_size q1.2.1 q1.2.2.1 q1.2.2.2.1 q1.2.2.2.2 p2_wets p2_guests_cells p2_guests_rows p2_host p2_rooms p2_night p2_wheels p2_turned)) hx hb hml hown hts hK hA hl hS (c_X6_numberWithin l D cI cB cZ a_p1 a_p1_bytes p1_bytes p1_size p1_next p1_start p1_token p1_number (0 : Int32) (p2_guests_rows - (1 : Int32)) _ _ hq1) (va_cwS 3 hts gX6_comeItem_X6_numberWithin rfl rfl rfl (by decide +kernel) ⟨Nat.le_of_ble_eq_true rfl, Nat.le_of_ble_eq_true rfl⟩) [0, 1] rfl rfl rfl [.inr 0, .inr 1, .inl 2, .inl 3, .inl 4, .inl 5] rfl rfl rfl rfl (Nat.le_of_ble_eq_true rfl) dX6_comeItem_11 (fun H locs hS => ?_)
  refine lv_istore_n (lv' := [(2, .int q1.1), (0, .ref a_p1), (1, .ref a_p2)]) hx hb dX6_comeItem_14 rfl hl (by decide) rfl (fun ls hl => ?_)
  refine lv_iload_n hx hb dX6_comeItem_15 rfl (lv_at hl 0 rfl) ?_
  refine lv_if_lt (tgt := 27) hx hb dX6_comeItem_16 (by decide) (fun c2 => ?_) (fun c2 => ?_)
  · replace h := s_yes c2 h
    refine lv_iconst (v := (0 : Int32)) hx hb dX6_comeItem_27 (by decide) ?_
    obtain rfl := Option.some.inj h
    exact hend _ _ _ _ dX6_comeItem_28 (Or.inl rfl) hS
  replace h := s_no c2 h
  refine lv_aload_n hx hb dX6_comeItem_19 rfl (lv_at hl 2 rfl) ?_
  refine lv_iload_n hx hb dX6_comeItem_20 rfl (lv_at hl 0 rfl) ?_
  obtain ⟨q3, hq3, h⟩ := s_bind h
  refine u_calliV (r := q3) (As := [.int q1.1]) (rest := []) (wc := (wd_X1_isIn cI cB cZ a_p2 a_p2_wets a_p2_guests a_p2_guests_cells a_p2_sights a_p2_remarks a_p2_marks a_p2_past p2_guests_cells p2_guests_rows p2_host p2_rooms p2_night p2_wheels p2_turned)) hx hb hml hown hts hK hA hl hS (c_X1_isIn l D cI cB cZ a_p2 a_p2_wets a_p2_guests a_p2_guests_cells a_p2_sights a_p2_remarks a_p2_marks a_p2_past p2_guests_cells p2_guests_rows p2_host p2_rooms p2_night p2_wheels p2_turned q1.1 _ _ hq3) (cwV 1 hts gX6_comeItem_X1_isIn rfl rfl rfl (by decide +kernel) ⟨Nat.le_of_ble_eq_true rfl, Nat.le_of_ble_eq_true rfl⟩) 2 rfl rfl [2, 4, 5] rfl rfl rfl rfl (Nat.le_of_ble_eq_true rfl) dX6_comeItem_21 (fun H locs hS => ?_)
  refine lv_if_eq (tgt := 29) hx hb dX6_comeItem_24 (by decide) (fun c4 => ?_) (fun c4 => ?_)
  · replace h := s_yes c4 h
    refine lv_aload_n hx hb dX6_comeItem_29 rfl (lv_at hl 2 rfl) ?_
    refine lv_iload_n hx hb dX6_comeItem_30 rfl (lv_at hl 0 rfl) ?_
    obtain ⟨q5, hq5, h⟩ := s_bind h
    refine r_calliV (r := q5.1) (As := [.int q1.1]) (rest := []) (wc := (wd_X1_arrive cI cB cZ a_p2 a_p2_wets a_p2_guests a_p2_guests_cells a_p2_sights a_p2_remarks a_p2_marks a_p2_past p2_wets p2_guests_cells p2_guests_rows p2_host p2_rooms p2_night p2_wheels p2_turned)) (w1 := (wd_X1_arrive cI cB cZ a_p2 a_p2_wets a_p2_guests a_p2_guests_cells a_p2_sights a_p2_remarks a_p2_marks a_p2_past p2_wets q5.2.1 p2_guests_rows p2_host p2_rooms p2_night q5.2.2.1 q5.2.2.2)) (ws' := (wd_X6_comeItem cI cB cZ a_p1 a_p1_bytes a_p2 a_p2_wets a_p2_guests a_p2_guests_cells a_p2_sights a_p2_remarks a_p2_marks a_p2_past p1_bytes p1_size q1.2.1 q1.2.2.1 q1.2.2.2.1 q1.2.2.2.2 p2_wets q5.2.1 p2_guests_rows p2_host p2_rooms p2_night q5.2.2.1 q5.2.2.2)) hx hb hml hown hts hK hA hl hS (c_X1_arrive l D cI cB cZ a_p2 a_p2_wets a_p2_guests a_p2_guests_cells a_p2_sights a_p2_remarks a_p2_marks a_p2_past p2_wets p2_guests_cells p2_guests_rows p2_host p2_rooms p2_night p2_wheels p2_turned q1.1 _ _ hq5) (cwV 1 hts gX6_comeItem_X1_arrive rfl rfl rfl (by decide +kernel) ⟨Nat.le_of_ble_eq_true rfl, Nat.le_of_ble_eq_true rfl⟩) 2 rfl rfl [2, 3, 4, 5] rfl rfl rfl [.inl 0, .inl 1, .inr 0, .inr 1, .inr 2, .inr 3] rfl rfl rfl rfl (Nat.le_of_ble_eq_true rfl) dX6_comeItem_31 (fun H locs hS => ?_)
    refine lv_pop hx hb dX6_comeItem_34 rfl ?_
    refine lv_aload_n hx hb dX6_comeItem_35 rfl (lv_at hl 1 rfl) ?_
    obtain ⟨q6, hq6, h⟩ := s_bind h
    refine r_calliS (r := q6.1) (As := [.ref a_p1]) (rest := []) (wc := (wd_X6_stops cI cB cZ a_p1 a_p1_bytes p1_bytes p1_size q1.2.1 q1.2.2.1 q1.2.2.2.1 q1.2.2.2.2)) (w1 := (wd_X6_stops cI cB cZ a_p1 a_p1_bytes p1_bytes p1_size q6.2.1 q6.2.2.1 q6.2.2.2.1 q6.2.2.2.2)) (ws' := (wd_X6_comeItem cI cB cZ a_p1 a_p1_bytes a_p2 a_p2_wets a_p2_guests a_p2_guests_cells a_p2_sights a_p2_remarks a_p2_marks a_p2_past p1_bytes p1_size q6.2.1 q6.2.2.1 q6.2.2.2.1 q6.2.2.2.2 p2_wets q5.2.1 p2_guests_rows p2_host p2_rooms p2_night q5.2.2.1 q5.2.2.2)) hx hb hml hown hts hK hA hl hS (c_X6_stops l D cI cB cZ a_p1 a_p1_bytes p1_bytes p1_size q1.2.1 q1.2.2.1 q1.2.2.2.1 q1.2.2.2.2 _ _ hq6) (va_cwS 1 hts gX6_comeItem_X6_stops rfl rfl rfl (by decide +kernel) ⟨Nat.le_of_ble_eq_true rfl, Nat.le_of_ble_eq_true rfl⟩) [0, 1] rfl rfl rfl [.inr 0, .inr 1, .inl 2, .inl 3, .inl 4, .inl 5] rfl rfl rfl rfl (Nat.le_of_ble_eq_true rfl) dX6_comeItem_36 (fun H locs hS => ?_)
    obtain ⟨g7, h⟩ := s_guard h
    obtain rfl := Option.some.inj h
    exact hend _ _ _ _ dX6_comeItem_39 g7 hS
  replace h := s_no c4 h
  refine lv_iconst (v := (0 : Int32)) hx hb dX6_comeItem_27 (by decide) ?_
  obtain rfl := Option.some.inj h
  exact hend _ _ _ _ dX6_comeItem_28 (Or.inl rfl) hS

-- InnTurned$Telling.goItem(LInnTurned$Script;LInnTurned$House;)Z
def wd_X6_goItem (cI cB cZ : ClassId) (a_p1 : Nat) (a_p1_bytes : Nat) (a_p2 : Nat) (a_p2_wets : Nat) (a_p2_guests : Nat) (a_p2_guests_cells : Nat) (a_p2_sights : Nat) (a_p2_remarks : Nat) (a_p2_marks : Nat) (a_p2_past : Nat)  (p1_bytes : (Nat → Int32)) (p1_size : Int32) (p1_next : Int32) (p1_start : Int32) (p1_token : Int32) (p1_number : Int32) (p2_guests_cells : (Nat → Int32)) (p2_guests_rows : Int32) (p2_host : Int32) (p2_rooms : Int32) (p2_night : Int32) (p2_wheels : Int32) (p2_turned : Int32) : va_W := [(a_p1, .inr (2, [.ref a_p1_bytes, .int p1_size, .int p1_next, .int p1_start, .int p1_token, .int p1_number])), (a_p1_bytes, .inl (cB, 150, .inl p1_bytes)), (a_p2, .inr (0, [.ref a_p2_wets, .ref a_p2_guests, .ref a_p2_sights, .ref a_p2_remarks, .ref a_p2_marks, .ref a_p2_past, .int p2_host, .int p2_rooms, .int p2_night, .int p2_wheels, .int p2_turned])), (a_p2_guests, .inr (3, [.int 4, .int 7, .ref a_p2_guests_cells, .int p2_guests_rows])), (a_p2_guests_cells, .inl (cI, 28, .inl p2_guests_cells))]
abbrev rm_X6_goItem : Room := { frames := 4, cells := 0, slots := 0, locals := 84 }
set_option maxRecDepth 20000 in
theorem inX1_X6_goItem : ∀ w ∈ u_ws RX1 TX1 11, w ∈ wsX6_goItem := by decide +kernel
set_option maxRecDepth 20000 in
theorem inX5_X6_goItem : ∀ w ∈ u_ws RX5 TX5 4, w ∈ wsX6_goItem := by decide +kernel
def f_X6_goItem  (p1_bytes : (Nat → Int32)) (p1_size : Int32) (p2_guests_rows : Int32) (p1_next : Int32) (p1_start : Int32) (p1_token : Int32) (p1_number : Int32) (p2_guests_cells : (Nat → Int32)) : Option (Int32 × Int32 × Int32 × Int32 × Int32 × (Nat → Int32)) := ((f_X6_numberWithin p1_bytes p1_size p1_next p1_start p1_token p1_number (0 : Int32) (p2_guests_rows - (1 : Int32))).bind fun q1 => (if q1.1 < 0 then some ((0 : Int32), q1.2.1, q1.2.2.1, q1.2.2.2.1, q1.2.2.2.2, p2_guests_cells) else ((f_X1_isIn p2_guests_cells p2_guests_rows q1.1).bind fun q3 => (if q3 = 0 then some ((0 : Int32), q1.2.1, q1.2.2.1, q1.2.2.2.1, q1.2.2.2.2, p2_guests_cells) else ((f_X1_leave p2_guests_rows p2_guests_cells q1.1).bind fun q5 => ((f_X6_stops p1_bytes p1_size q1.2.1 q1.2.2.1 q1.2.2.2.1 q1.2.2.2.2).bind fun q6 => (if q6.1 = 0 ∨ q6.1 = 1 then some (q6.1, q6.2.1, q6.2.2.1, q6.2.2.2.1, q6.2.2.2.2, q5) else none)))))))
set_option maxHeartbeats 4000000 in
set_option maxRecDepth 100000 in
theorem c_X6_goItem (l : Launch) (D : va_G) (cI cB cZ : ClassId) (a_p1 : Nat) (a_p1_bytes : Nat) (a_p2 : Nat) (a_p2_wets : Nat) (a_p2_guests : Nat) (a_p2_guests_cells : Nat) (a_p2_sights : Nat) (a_p2_remarks : Nat) (a_p2_marks : Nat) (a_p2_past : Nat) (p1_bytes : (Nat → Int32)) (p1_size : Int32) (p1_next : Int32) (p1_start : Int32) (p1_token : Int32) (p1_number : Int32) (p2_guests_cells : (Nat → Int32)) (p2_guests_rows : Int32) (p2_host : Int32) (p2_rooms : Int32) (p2_night : Int32) (p2_wheels : Int32) (p2_turned : Int32) (rv : Int32 × Int32 × Int32 × Int32 × Int32 × (Nat → Int32)) (sz : Nat) (hf : f_X6_goItem p1_bytes p1_size p2_guests_rows p1_next p1_start p1_token p1_number p2_guests_cells = some rv) : Met l yX6_goItem wsX6_goItem rm_X6_goItem (sPc D vwCl (s_tys cI cB cZ) [.ref a_p1, .ref a_p2] (wd_X6_goItem cI cB cZ a_p1 a_p1_bytes a_p2 a_p2_wets a_p2_guests a_p2_guests_cells a_p2_sights a_p2_remarks a_p2_marks a_p2_past p1_bytes p1_size p1_next p1_start p1_token p1_number p2_guests_cells p2_guests_rows p2_host p2_rooms p2_night p2_wheels p2_turned) sz) (sQi D vwCl (wd_X6_goItem cI cB cZ a_p1 a_p1_bytes a_p2 a_p2_wets a_p2_guests a_p2_guests_cells a_p2_sights a_p2_remarks a_p2_marks a_p2_past p1_bytes p1_size p1_next p1_start p1_token p1_number p2_guests_cells p2_guests_rows p2_host p2_rooms p2_night p2_wheels p2_turned) (wd_X6_goItem cI cB cZ a_p1 a_p1_bytes a_p2 a_p2_wets a_p2_guests a_p2_guests_cells a_p2_sights a_p2_remarks a_p2_marks a_p2_past p1_bytes p1_size rv.2.1 rv.2.2.1 rv.2.2.2.1 rv.2.2.2.2.1 rv.2.2.2.2.2 p2_guests_rows p2_host p2_rooms p2_night p2_wheels p2_turned) sz rv.1) 0 0 (va_A (wd_X6_goItem cI cB cZ a_p1 a_p1_bytes a_p2 a_p2_wets a_p2_guests a_p2_guests_cells a_p2_sights a_p2_remarks a_p2_marks a_p2_past p1_bytes p1_size p1_next p1_start p1_token p1_number p2_guests_cells p2_guests_rows p2_host p2_rooms p2_night p2_wheels p2_turned) sz) := by
  refine s_enter_z (cc := cX6_goItem) (nL := 3) (r := rv.1) (by decide) rfl (Nat.le_of_ble_eq_true rfl) ?_
  intro p e s m args below meth c A Q C0 hend ls hl hS
  have h := hf
  clear hf
  replace hl : lv_has ls 3 [(0, .ref a_p1), (1, .ref a_p2)] := hl
  unfold f_X6_goItem at h
  obtain ⟨hx, hb, hml, hown, hts, hK, hA⟩ := id C0
  have inX1 : ∀ w ∈ u_ws RX1 TX1 11, w ∈ wsX6_goItem := inX1_X6_goItem
  have inX5 : ∀ w ∈ u_ws RX5 TX5 4, w ∈ wsX6_goItem := inX5_X6_goItem
  refine lv_aload_n hx hb dX6_goItem_0 rfl (lv_at hl 0 rfl) ?_
  refine lv_iconst (v := (0 : Int32)) hx hb dX6_goItem_1 (by decide) ?_
  refine lv_aload_n hx hb dX6_goItem_2 rfl (lv_at hl 1 rfl) ?_
  refine s_getN (C := RX1) (T := TX1) (N := 11) hx hb hts inX1 hown hK hS 2 rfl rfl 1 (by decide) 8 rfl rfl rfl dX6_goItem_3 ?_
  refine s_getN (C := RX5) (T := TX5) (N := 4) hx hb hts inX5 hown hK hS 3 rfl rfl 3 (by decide) 3 rfl rfl rfl dX6_goItem_6 ?_
  refine lv_iconst (v := (1 : Int32)) hx hb dX6_goItem_9 (by decide) ?_
  refine lv_isub hx hb dX6_goItem_10 ?_
  obtain ⟨q1, hq1, h⟩ := s_bind h
  refine r_calliS (r := q1.1) (As := [.ref a_p1, .int (0 : Int32), .int (p2_guests_rows - (1 : Int32))]) (rest := []) (wc := (wd_X6_numberWithin cI cB cZ a_p1 a_p1_bytes p1_bytes p1_size p1_next p1_start p1_token p1_number)) (w1 := (wd_X6_numberWithin cI cB cZ a_p1 a_p1_bytes p1_bytes p1_size q1.2.1 q1.2.2.1 q1.2.2.2.1 q1.2.2.2.2)) (ws' := (wd_X6_goItem cI cB cZ a_p1 a_p1_bytes a_p2 a_p2_wets a_p2_guests a_p2_guests_cells a_p2_sights a_p2_remarks a_p2_marks a_p2_past p1_bytes p1_size q1.2.1 q1.2.2.1 q1.2.2.2.1 q1.2.2.2.2 p2_guests_cells p2_guests_rows p2_host p2_rooms p2_night p2_wheels p2_turned)) hx hb hml hown hts hK hA hl hS (c_X6_numberWithin l D cI cB cZ a_p1 a_p1_bytes p1_bytes p1_size p1_next p1_start p1_token p1_number (0 : Int32) (p2_guests_rows - (1 : Int32)) _ _ hq1) (va_cwS 3 hts gX6_goItem_X6_numberWithin rfl rfl rfl (by decide +kernel) ⟨Nat.le_of_ble_eq_true rfl, Nat.le_of_ble_eq_true rfl⟩) [0, 1] rfl rfl rfl [.inr 0, .inr 1, .inl 2, .inl 3, .inl 4] rfl rfl rfl rfl (Nat.le_of_ble_eq_true rfl) dX6_goItem_11 (fun H locs hS => ?_)
  refine lv_istore_n (lv' := [(2, .int q1.1), (0, .ref a_p1), (1, .ref a_p2)]) hx hb dX6_goItem_14 rfl hl (by decide) rfl (fun ls hl => ?_)
  refine lv_iload_n hx hb dX6_goItem_15 rfl (lv_at hl 0 rfl) ?_
  refine lv_if_lt (tgt := 27) hx hb dX6_goItem_16 (by decide) (fun c2 => ?_) (fun c2 => ?_)
  · replace h := s_yes c2 h
    refine lv_iconst (v := (0 : Int32)) hx hb dX6_goItem_27 (by decide) ?_
    obtain rfl := Option.some.inj h
    exact hend _ _ _ _ dX6_goItem_28 (Or.inl rfl) hS
  replace h := s_no c2 h
  refine lv_aload_n hx hb dX6_goItem_19 rfl (lv_at hl 2 rfl) ?_
  refine lv_iload_n hx hb dX6_goItem_20 rfl (lv_at hl 0 rfl) ?_
  obtain ⟨q3, hq3, h⟩ := s_bind h
  refine u_calliV (r := q3) (As := [.int q1.1]) (rest := []) (wc := (wd_X1_isIn cI cB cZ a_p2 a_p2_wets a_p2_guests a_p2_guests_cells a_p2_sights a_p2_remarks a_p2_marks a_p2_past p2_guests_cells p2_guests_rows p2_host p2_rooms p2_night p2_wheels p2_turned)) hx hb hml hown hts hK hA hl hS (c_X1_isIn l D cI cB cZ a_p2 a_p2_wets a_p2_guests a_p2_guests_cells a_p2_sights a_p2_remarks a_p2_marks a_p2_past p2_guests_cells p2_guests_rows p2_host p2_rooms p2_night p2_wheels p2_turned q1.1 _ _ hq3) (cwV 1 hts gX6_goItem_X1_isIn rfl rfl rfl (by decide +kernel) ⟨Nat.le_of_ble_eq_true rfl, Nat.le_of_ble_eq_true rfl⟩) 2 rfl rfl [2, 3, 4] rfl rfl rfl rfl (Nat.le_of_ble_eq_true rfl) dX6_goItem_21 (fun H locs hS => ?_)
  refine lv_if_ne (tgt := 29) hx hb dX6_goItem_24 (by decide) (fun c4 => ?_) (fun c4 => ?_)
  · replace h := s_no c4 h
    refine lv_aload_n hx hb dX6_goItem_29 rfl (lv_at hl 2 rfl) ?_
    refine lv_iload_n hx hb dX6_goItem_30 rfl (lv_at hl 0 rfl) ?_
    obtain ⟨q5, hq5, h⟩ := s_bind h
    refine r_callvV (As := [.int q1.1]) (rest := []) (wc := (wd_X1_leave cI cB cZ a_p2 a_p2_wets a_p2_guests a_p2_guests_cells a_p2_sights a_p2_remarks a_p2_marks a_p2_past p2_guests_cells p2_guests_rows p2_host p2_rooms p2_night p2_wheels p2_turned)) (w1 := (wd_X1_leave cI cB cZ a_p2 a_p2_wets a_p2_guests a_p2_guests_cells a_p2_sights a_p2_remarks a_p2_marks a_p2_past q5 p2_guests_rows p2_host p2_rooms p2_night p2_wheels p2_turned)) (ws' := (wd_X6_goItem cI cB cZ a_p1 a_p1_bytes a_p2 a_p2_wets a_p2_guests a_p2_guests_cells a_p2_sights a_p2_remarks a_p2_marks a_p2_past p1_bytes p1_size q1.2.1 q1.2.2.1 q1.2.2.2.1 q1.2.2.2.2 q5 p2_guests_rows p2_host p2_rooms p2_night p2_wheels p2_turned)) hx hb hml hown hts hK hA hl hS (c_X1_leave l D cI cB cZ a_p2 a_p2_wets a_p2_guests a_p2_guests_cells a_p2_sights a_p2_remarks a_p2_marks a_p2_past p2_guests_cells p2_guests_rows p2_host p2_rooms p2_night p2_wheels p2_turned q1.1 _ _ hq5) (cwV 1 hts gX6_goItem_X1_leave rfl rfl rfl (by decide +kernel) ⟨Nat.le_of_ble_eq_true rfl, Nat.le_of_ble_eq_true rfl⟩) 2 rfl rfl [2, 3, 4] rfl rfl rfl [.inl 0, .inl 1, .inr 0, .inr 1, .inr 2] rfl rfl rfl rfl (Nat.le_of_ble_eq_true rfl) dX6_goItem_31 (fun H locs hS => ?_)
    refine lv_aload_n hx hb dX6_goItem_34 rfl (lv_at hl 1 rfl) ?_
    obtain ⟨q6, hq6, h⟩ := s_bind h
    refine r_calliS (r := q6.1) (As := [.ref a_p1]) (rest := []) (wc := (wd_X6_stops cI cB cZ a_p1 a_p1_bytes p1_bytes p1_size q1.2.1 q1.2.2.1 q1.2.2.2.1 q1.2.2.2.2)) (w1 := (wd_X6_stops cI cB cZ a_p1 a_p1_bytes p1_bytes p1_size q6.2.1 q6.2.2.1 q6.2.2.2.1 q6.2.2.2.2)) (ws' := (wd_X6_goItem cI cB cZ a_p1 a_p1_bytes a_p2 a_p2_wets a_p2_guests a_p2_guests_cells a_p2_sights a_p2_remarks a_p2_marks a_p2_past p1_bytes p1_size q6.2.1 q6.2.2.1 q6.2.2.2.1 q6.2.2.2.2 q5 p2_guests_rows p2_host p2_rooms p2_night p2_wheels p2_turned)) hx hb hml hown hts hK hA hl hS (c_X6_stops l D cI cB cZ a_p1 a_p1_bytes p1_bytes p1_size q1.2.1 q1.2.2.1 q1.2.2.2.1 q1.2.2.2.2 _ _ hq6) (va_cwS 1 hts gX6_goItem_X6_stops rfl rfl rfl (by decide +kernel) ⟨Nat.le_of_ble_eq_true rfl, Nat.le_of_ble_eq_true rfl⟩) [0, 1] rfl rfl rfl [.inr 0, .inr 1, .inl 2, .inl 3, .inl 4] rfl rfl rfl rfl (Nat.le_of_ble_eq_true rfl) dX6_goItem_35 (fun H locs hS => ?_)
    obtain ⟨g7, h⟩ := s_guard h
    obtain rfl := Option.some.inj h
    exact hend _ _ _ _ dX6_goItem_38 g7 hS
  replace h := s_yes c4 h
  refine lv_iconst (v := (0 : Int32)) hx hb dX6_goItem_27 (by decide) ?_
  obtain rfl := Option.some.inj h
  exact hend _ _ _ _ dX6_goItem_28 (Or.inl rfl) hS

-- InnTurned$Telling.letterItem(LInnTurned$Script;LInnTurned$House;)Z
def wd_X6_letterItem (cI cB cZ : ClassId) (a_p1 : Nat) (a_p1_bytes : Nat) (a_p2 : Nat) (a_p2_wets : Nat) (a_p2_guests : Nat) (a_p2_guests_cells : Nat) (a_p2_sights : Nat) (a_p2_remarks : Nat) (a_p2_marks : Nat) (a_p2_past : Nat)  (p1_bytes : (Nat → Int32)) (p1_size : Int32) (p1_next : Int32) (p1_start : Int32) (p1_token : Int32) (p1_number : Int32) (p2_guests_cells : (Nat → Int32)) (p2_guests_rows : Int32) (p2_host : Int32) (p2_rooms : Int32) (p2_night : Int32) (p2_wheels : Int32) (p2_turned : Int32) : va_W := [(a_p1, .inr (2, [.ref a_p1_bytes, .int p1_size, .int p1_next, .int p1_start, .int p1_token, .int p1_number])), (a_p1_bytes, .inl (cB, 150, .inl p1_bytes)), (a_p2, .inr (0, [.ref a_p2_wets, .ref a_p2_guests, .ref a_p2_sights, .ref a_p2_remarks, .ref a_p2_marks, .ref a_p2_past, .int p2_host, .int p2_rooms, .int p2_night, .int p2_wheels, .int p2_turned])), (a_p2_guests, .inr (3, [.int 4, .int 7, .ref a_p2_guests_cells, .int p2_guests_rows])), (a_p2_guests_cells, .inl (cI, 28, .inl p2_guests_cells))]
abbrev rm_X6_letterItem : Room := { frames := 4, cells := 0, slots := 0, locals := 84 }
set_option maxRecDepth 20000 in
theorem inX1_X6_letterItem : ∀ w ∈ u_ws RX1 TX1 11, w ∈ wsX6_letterItem := by decide +kernel
set_option maxRecDepth 20000 in
theorem inX5_X6_letterItem : ∀ w ∈ u_ws RX5 TX5 4, w ∈ wsX6_letterItem := by decide +kernel
def f_X6_letterItem  (p1_bytes : (Nat → Int32)) (p1_size : Int32) (p2_guests_rows : Int32) (p1_next : Int32) (p1_start : Int32) (p1_token : Int32) (p1_number : Int32) (p2_guests_cells : (Nat → Int32)) : Option (Int32 × Int32 × Int32 × Int32 × Int32 × (Nat → Int32)) := ((f_X6_numberWithin p1_bytes p1_size p1_next p1_start p1_token p1_number (0 : Int32) (p2_guests_rows - (1 : Int32))).bind fun q1 => (if 0 ≤ q1.1 then ((f_X6_numberWithin p1_bytes p1_size q1.2.1 q1.2.2.1 q1.2.2.2.1 q1.2.2.2.2 (0 : Int32) (9 : Int32)).bind fun q3 => (if 0 ≤ q3.1 then ((f_X5_put 28 (4 : Int32) p2_guests_rows p2_guests_cells q1.1 (1 : Int32) q3.1).bind fun q5 => ((f_X6_stops p1_bytes p1_size q3.2.1 q3.2.2.1 q3.2.2.2.1 q3.2.2.2.2).bind fun q6 => (if q6.1 = 0 ∨ q6.1 = 1 then some (q6.1, q6.2.1, q6.2.2.1, q6.2.2.2.1, q6.2.2.2.2, q5) else none))) else some ((0 : Int32), q3.2.1, q3.2.2.1, q3.2.2.2.1, q3.2.2.2.2, p2_guests_cells))) else some ((0 : Int32), q1.2.1, q1.2.2.1, q1.2.2.2.1, q1.2.2.2.2, p2_guests_cells)))
set_option maxHeartbeats 4000000 in
set_option maxRecDepth 100000 in
theorem c_X6_letterItem (l : Launch) (D : va_G) (cI cB cZ : ClassId) (a_p1 : Nat) (a_p1_bytes : Nat) (a_p2 : Nat) (a_p2_wets : Nat) (a_p2_guests : Nat) (a_p2_guests_cells : Nat) (a_p2_sights : Nat) (a_p2_remarks : Nat) (a_p2_marks : Nat) (a_p2_past : Nat) (p1_bytes : (Nat → Int32)) (p1_size : Int32) (p1_next : Int32) (p1_start : Int32) (p1_token : Int32) (p1_number : Int32) (p2_guests_cells : (Nat → Int32)) (p2_guests_rows : Int32) (p2_host : Int32) (p2_rooms : Int32) (p2_night : Int32) (p2_wheels : Int32) (p2_turned : Int32) (rv : Int32 × Int32 × Int32 × Int32 × Int32 × (Nat → Int32)) (sz : Nat) (hf : f_X6_letterItem p1_bytes p1_size p2_guests_rows p1_next p1_start p1_token p1_number p2_guests_cells = some rv) : Met l yX6_letterItem wsX6_letterItem rm_X6_letterItem (sPc D vwCl (s_tys cI cB cZ) [.ref a_p1, .ref a_p2] (wd_X6_letterItem cI cB cZ a_p1 a_p1_bytes a_p2 a_p2_wets a_p2_guests a_p2_guests_cells a_p2_sights a_p2_remarks a_p2_marks a_p2_past p1_bytes p1_size p1_next p1_start p1_token p1_number p2_guests_cells p2_guests_rows p2_host p2_rooms p2_night p2_wheels p2_turned) sz) (sQi D vwCl (wd_X6_letterItem cI cB cZ a_p1 a_p1_bytes a_p2 a_p2_wets a_p2_guests a_p2_guests_cells a_p2_sights a_p2_remarks a_p2_marks a_p2_past p1_bytes p1_size p1_next p1_start p1_token p1_number p2_guests_cells p2_guests_rows p2_host p2_rooms p2_night p2_wheels p2_turned) (wd_X6_letterItem cI cB cZ a_p1 a_p1_bytes a_p2 a_p2_wets a_p2_guests a_p2_guests_cells a_p2_sights a_p2_remarks a_p2_marks a_p2_past p1_bytes p1_size rv.2.1 rv.2.2.1 rv.2.2.2.1 rv.2.2.2.2.1 rv.2.2.2.2.2 p2_guests_rows p2_host p2_rooms p2_night p2_wheels p2_turned) sz rv.1) 0 0 (va_A (wd_X6_letterItem cI cB cZ a_p1 a_p1_bytes a_p2 a_p2_wets a_p2_guests a_p2_guests_cells a_p2_sights a_p2_remarks a_p2_marks a_p2_past p1_bytes p1_size p1_next p1_start p1_token p1_number p2_guests_cells p2_guests_rows p2_host p2_rooms p2_night p2_wheels p2_turned) sz) := by
  refine s_enter_z (cc := cX6_letterItem) (nL := 4) (r := rv.1) (by decide) rfl (Nat.le_of_ble_eq_true rfl) ?_
  intro p e s m args below meth c A Q C0 hend ls hl hS
  have h := hf
  clear hf
  replace hl : lv_has ls 4 [(0, .ref a_p1), (1, .ref a_p2)] := hl
  unfold f_X6_letterItem at h
  obtain ⟨hx, hb, hml, hown, hts, hK, hA⟩ := id C0
  have inX1 : ∀ w ∈ u_ws RX1 TX1 11, w ∈ wsX6_letterItem := inX1_X6_letterItem
  have inX5 : ∀ w ∈ u_ws RX5 TX5 4, w ∈ wsX6_letterItem := inX5_X6_letterItem
  refine lv_aload_n hx hb dX6_letterItem_0 rfl (lv_at hl 0 rfl) ?_
  refine lv_iconst (v := (0 : Int32)) hx hb dX6_letterItem_1 (by decide) ?_
  refine lv_aload_n hx hb dX6_letterItem_2 rfl (lv_at hl 1 rfl) ?_
  refine s_getN (C := RX1) (T := TX1) (N := 11) hx hb hts inX1 hown hK hS 2 rfl rfl 1 (by decide) 8 rfl rfl rfl dX6_letterItem_3 ?_
  refine s_getN (C := RX5) (T := TX5) (N := 4) hx hb hts inX5 hown hK hS 3 rfl rfl 3 (by decide) 3 rfl rfl rfl dX6_letterItem_6 ?_
  refine lv_iconst (v := (1 : Int32)) hx hb dX6_letterItem_9 (by decide) ?_
  refine lv_isub hx hb dX6_letterItem_10 ?_
  obtain ⟨q1, hq1, h⟩ := s_bind h
  refine r_calliS (r := q1.1) (As := [.ref a_p1, .int (0 : Int32), .int (p2_guests_rows - (1 : Int32))]) (rest := []) (wc := (wd_X6_numberWithin cI cB cZ a_p1 a_p1_bytes p1_bytes p1_size p1_next p1_start p1_token p1_number)) (w1 := (wd_X6_numberWithin cI cB cZ a_p1 a_p1_bytes p1_bytes p1_size q1.2.1 q1.2.2.1 q1.2.2.2.1 q1.2.2.2.2)) (ws' := (wd_X6_letterItem cI cB cZ a_p1 a_p1_bytes a_p2 a_p2_wets a_p2_guests a_p2_guests_cells a_p2_sights a_p2_remarks a_p2_marks a_p2_past p1_bytes p1_size q1.2.1 q1.2.2.1 q1.2.2.2.1 q1.2.2.2.2 p2_guests_cells p2_guests_rows p2_host p2_rooms p2_night p2_wheels p2_turned)) hx hb hml hown hts hK hA hl hS (c_X6_numberWithin l D cI cB cZ a_p1 a_p1_bytes p1_bytes p1_size p1_next p1_start p1_token p1_number (0 : Int32) (p2_guests_rows - (1 : Int32)) _ _ hq1) (va_cwS 3 hts gX6_letterItem_X6_numberWithin rfl rfl rfl (by decide +kernel) ⟨Nat.le_of_ble_eq_true rfl, Nat.le_of_ble_eq_true rfl⟩) [0, 1] rfl rfl rfl [.inr 0, .inr 1, .inl 2, .inl 3, .inl 4] rfl rfl rfl rfl (Nat.le_of_ble_eq_true rfl) dX6_letterItem_11 (fun H locs hS => ?_)
  refine lv_istore_n (lv' := [(2, .int q1.1), (0, .ref a_p1), (1, .ref a_p2)]) hx hb dX6_letterItem_14 rfl hl (by decide) rfl (fun ls hl => ?_)
  refine lv_iload_n hx hb dX6_letterItem_15 rfl (lv_at hl 0 rfl) ?_
  refine lv_if_ge (tgt := 21) hx hb dX6_letterItem_16 (by decide) (fun c2 => ?_) (fun c2 => ?_)
  · replace h := s_yes c2 h
    refine lv_aload_n hx hb dX6_letterItem_21 rfl (lv_at hl 1 rfl) ?_
    refine lv_iconst (v := (0 : Int32)) hx hb dX6_letterItem_22 (by decide) ?_
    refine lv_bipush (v := (9 : Int32)) hx hb dX6_letterItem_23 (by decide) ?_
    obtain ⟨q3, hq3, h⟩ := s_bind h
    refine r_calliS (r := q3.1) (As := [.ref a_p1, .int (0 : Int32), .int (9 : Int32)]) (rest := []) (wc := (wd_X6_numberWithin cI cB cZ a_p1 a_p1_bytes p1_bytes p1_size q1.2.1 q1.2.2.1 q1.2.2.2.1 q1.2.2.2.2)) (w1 := (wd_X6_numberWithin cI cB cZ a_p1 a_p1_bytes p1_bytes p1_size q3.2.1 q3.2.2.1 q3.2.2.2.1 q3.2.2.2.2)) (ws' := (wd_X6_letterItem cI cB cZ a_p1 a_p1_bytes a_p2 a_p2_wets a_p2_guests a_p2_guests_cells a_p2_sights a_p2_remarks a_p2_marks a_p2_past p1_bytes p1_size q3.2.1 q3.2.2.1 q3.2.2.2.1 q3.2.2.2.2 p2_guests_cells p2_guests_rows p2_host p2_rooms p2_night p2_wheels p2_turned)) hx hb hml hown hts hK hA hl hS (c_X6_numberWithin l D cI cB cZ a_p1 a_p1_bytes p1_bytes p1_size q1.2.1 q1.2.2.1 q1.2.2.2.1 q1.2.2.2.2 (0 : Int32) (9 : Int32) _ _ hq3) (va_cwS 3 hts gX6_letterItem_X6_numberWithin rfl rfl rfl (by decide +kernel) ⟨Nat.le_of_ble_eq_true rfl, Nat.le_of_ble_eq_true rfl⟩) [0, 1] rfl rfl rfl [.inr 0, .inr 1, .inl 2, .inl 3, .inl 4] rfl rfl rfl rfl (Nat.le_of_ble_eq_true rfl) dX6_letterItem_25 (fun H locs hS => ?_)
    refine lv_istore_n (lv' := [(3, .int q3.1), (2, .int q1.1), (0, .ref a_p1), (1, .ref a_p2)]) hx hb dX6_letterItem_28 rfl hl (by decide) rfl (fun ls hl => ?_)
    refine lv_iload_n hx hb dX6_letterItem_29 rfl (lv_at hl 0 rfl) ?_
    refine lv_if_ge (tgt := 35) hx hb dX6_letterItem_30 (by decide) (fun c4 => ?_) (fun c4 => ?_)
    · replace h := s_yes c4 h
      refine lv_aload_n hx hb dX6_letterItem_35 rfl (lv_at hl 3 rfl) ?_
      refine s_getN (C := RX1) (T := TX1) (N := 11) hx hb hts inX1 hown hK hS 2 rfl rfl 1 (by decide) 8 rfl rfl rfl dX6_letterItem_36 ?_
      refine lv_iload_n hx hb dX6_letterItem_39 rfl (lv_at hl 1 rfl) ?_
      refine lv_iconst (v := (1 : Int32)) hx hb dX6_letterItem_40 (by decide) ?_
      refine lv_iload_n hx hb dX6_letterItem_41 rfl (lv_at hl 0 rfl) ?_
      obtain ⟨q5, hq5, h⟩ := s_bind h
      refine r_callvV (As := [.int q1.1, .int (1 : Int32), .int q3.1]) (rest := []) (wc := (wd_X5_put cI cB cZ a_p2_guests a_p2_guests_cells 28 (4 : Int32) (7 : Int32) p2_guests_cells p2_guests_rows)) (w1 := (wd_X5_put cI cB cZ a_p2_guests a_p2_guests_cells 28 (4 : Int32) (7 : Int32) q5 p2_guests_rows)) (ws' := (wd_X6_letterItem cI cB cZ a_p1 a_p1_bytes a_p2 a_p2_wets a_p2_guests a_p2_guests_cells a_p2_sights a_p2_remarks a_p2_marks a_p2_past p1_bytes p1_size q3.2.1 q3.2.2.1 q3.2.2.2.1 q3.2.2.2.2 q5 p2_guests_rows p2_host p2_rooms p2_night p2_wheels p2_turned)) hx hb hml hown hts hK hA hl hS (c_X5_put l D cI cB cZ a_p2_guests a_p2_guests_cells 28 (4 : Int32) (7 : Int32) p2_guests_cells p2_guests_rows q1.1 (1 : Int32) q3.1 _ _ hq5) (cwV 3 hts gX6_letterItem_X5_put rfl rfl rfl (by decide +kernel) ⟨Nat.le_of_ble_eq_true rfl, Nat.le_of_ble_eq_true rfl⟩) 3 rfl rfl [3, 4] rfl rfl rfl [.inl 0, .inl 1, .inl 2, .inr 0, .inr 1] rfl rfl rfl rfl (Nat.le_of_ble_eq_true rfl) dX6_letterItem_42 (fun H locs hS => ?_)
      refine lv_aload_n hx hb dX6_letterItem_45 rfl (lv_at hl 2 rfl) ?_
      obtain ⟨q6, hq6, h⟩ := s_bind h
      refine r_calliS (r := q6.1) (As := [.ref a_p1]) (rest := []) (wc := (wd_X6_stops cI cB cZ a_p1 a_p1_bytes p1_bytes p1_size q3.2.1 q3.2.2.1 q3.2.2.2.1 q3.2.2.2.2)) (w1 := (wd_X6_stops cI cB cZ a_p1 a_p1_bytes p1_bytes p1_size q6.2.1 q6.2.2.1 q6.2.2.2.1 q6.2.2.2.2)) (ws' := (wd_X6_letterItem cI cB cZ a_p1 a_p1_bytes a_p2 a_p2_wets a_p2_guests a_p2_guests_cells a_p2_sights a_p2_remarks a_p2_marks a_p2_past p1_bytes p1_size q6.2.1 q6.2.2.1 q6.2.2.2.1 q6.2.2.2.2 q5 p2_guests_rows p2_host p2_rooms p2_night p2_wheels p2_turned)) hx hb hml hown hts hK hA hl hS (c_X6_stops l D cI cB cZ a_p1 a_p1_bytes p1_bytes p1_size q3.2.1 q3.2.2.1 q3.2.2.2.1 q3.2.2.2.2 _ _ hq6) (va_cwS 1 hts gX6_letterItem_X6_stops rfl rfl rfl (by decide +kernel) ⟨Nat.le_of_ble_eq_true rfl, Nat.le_of_ble_eq_true rfl⟩) [0, 1] rfl rfl rfl [.inr 0, .inr 1, .inl 2, .inl 3, .inl 4] rfl rfl rfl rfl (Nat.le_of_ble_eq_true rfl) dX6_letterItem_46 (fun H locs hS => ?_)
      obtain ⟨g7, h⟩ := s_guard h
      obtain rfl := Option.some.inj h
      exact hend _ _ _ _ dX6_letterItem_49 g7 hS
    replace h := s_no c4 h
    refine lv_iconst (v := (0 : Int32)) hx hb dX6_letterItem_33 (by decide) ?_
    obtain rfl := Option.some.inj h
    exact hend _ _ _ _ dX6_letterItem_34 (Or.inl rfl) hS
  replace h := s_no c2 h
  refine lv_iconst (v := (0 : Int32)) hx hb dX6_letterItem_19 (by decide) ?_
  obtain rfl := Option.some.inj h
  exact hend _ _ _ _ dX6_letterItem_20 (Or.inl rfl) hS

-- InnTurned$Telling.nightsItem(LInnTurned$Script;LInnTurned$House;)Z
def wd_X6_nightsItem (cI cB cZ : ClassId) (a_p1 : Nat) (a_p1_bytes : Nat) (a_p2 : Nat) (a_p2_wets : Nat) (a_p2_guests : Nat) (a_p2_sights : Nat) (a_p2_remarks : Nat) (a_p2_marks : Nat) (a_p2_past : Nat)  (p1_bytes : (Nat → Int32)) (p1_size : Int32) (p1_next : Int32) (p1_start : Int32) (p1_token : Int32) (p1_number : Int32) (p2_host : Int32) (p2_rooms : Int32) (p2_night : Int32) (p2_wheels : Int32) (p2_turned : Int32) : va_W := [(a_p1, .inr (2, [.ref a_p1_bytes, .int p1_size, .int p1_next, .int p1_start, .int p1_token, .int p1_number])), (a_p1_bytes, .inl (cB, 150, .inl p1_bytes)), (a_p2, .inr (0, [.ref a_p2_wets, .ref a_p2_guests, .ref a_p2_sights, .ref a_p2_remarks, .ref a_p2_marks, .ref a_p2_past, .int p2_host, .int p2_rooms, .int p2_night, .int p2_wheels, .int p2_turned]))]
abbrev rm_X6_nightsItem : Room := { frames := 4, cells := 0, slots := 0, locals := 84 }
def f_X6_nightsItem  (p1_bytes : (Nat → Int32)) (p1_size : Int32) (p1_next : Int32) (p1_start : Int32) (p1_token : Int32) (p1_number : Int32) (p2_night : Int32) (p2_wheels : Int32) : Option (Int32 × Int32 × Int32 × Int32 × Int32 × Int32 × Int32) := ((f_X6_numberWithin p1_bytes p1_size p1_next p1_start p1_token p1_number (1 : Int32) (99 : Int32)).bind fun q1 => (if 0 ≤ q1.1 then ((f_X1_sleep p2_night p2_wheels q1.1).bind fun q3 => ((f_X6_stops p1_bytes p1_size q1.2.1 q1.2.2.1 q1.2.2.2.1 q1.2.2.2.2).bind fun q4 => (if q4.1 = 0 ∨ q4.1 = 1 then some (q4.1, q4.2.1, q4.2.2.1, q4.2.2.2.1, q4.2.2.2.2, q3.1, q3.2) else none))) else some ((0 : Int32), q1.2.1, q1.2.2.1, q1.2.2.2.1, q1.2.2.2.2, p2_night, p2_wheels)))
set_option maxHeartbeats 4000000 in
set_option maxRecDepth 100000 in
theorem c_X6_nightsItem (l : Launch) (D : va_G) (cI cB cZ : ClassId) (a_p1 : Nat) (a_p1_bytes : Nat) (a_p2 : Nat) (a_p2_wets : Nat) (a_p2_guests : Nat) (a_p2_sights : Nat) (a_p2_remarks : Nat) (a_p2_marks : Nat) (a_p2_past : Nat) (p1_bytes : (Nat → Int32)) (p1_size : Int32) (p1_next : Int32) (p1_start : Int32) (p1_token : Int32) (p1_number : Int32) (p2_host : Int32) (p2_rooms : Int32) (p2_night : Int32) (p2_wheels : Int32) (p2_turned : Int32) (rv : Int32 × Int32 × Int32 × Int32 × Int32 × Int32 × Int32) (sz : Nat) (hf : f_X6_nightsItem p1_bytes p1_size p1_next p1_start p1_token p1_number p2_night p2_wheels = some rv) : Met l yX6_nightsItem wsX6_nightsItem rm_X6_nightsItem (sPc D vwCl (s_tys cI cB cZ) [.ref a_p1, .ref a_p2] (wd_X6_nightsItem cI cB cZ a_p1 a_p1_bytes a_p2 a_p2_wets a_p2_guests a_p2_sights a_p2_remarks a_p2_marks a_p2_past p1_bytes p1_size p1_next p1_start p1_token p1_number p2_host p2_rooms p2_night p2_wheels p2_turned) sz) (sQi D vwCl (wd_X6_nightsItem cI cB cZ a_p1 a_p1_bytes a_p2 a_p2_wets a_p2_guests a_p2_sights a_p2_remarks a_p2_marks a_p2_past p1_bytes p1_size p1_next p1_start p1_token p1_number p2_host p2_rooms p2_night p2_wheels p2_turned) (wd_X6_nightsItem cI cB cZ a_p1 a_p1_bytes a_p2 a_p2_wets a_p2_guests a_p2_sights a_p2_remarks a_p2_marks a_p2_past p1_bytes p1_size rv.2.1 rv.2.2.1 rv.2.2.2.1 rv.2.2.2.2.1 p2_host p2_rooms rv.2.2.2.2.2.1 rv.2.2.2.2.2.2 p2_turned) sz rv.1) 0 0 (va_A (wd_X6_nightsItem cI cB cZ a_p1 a_p1_bytes a_p2 a_p2_wets a_p2_guests a_p2_sights a_p2_remarks a_p2_marks a_p2_past p1_bytes p1_size p1_next p1_start p1_token p1_number p2_host p2_rooms p2_night p2_wheels p2_turned) sz) := by
  refine s_enter_z (cc := cX6_nightsItem) (nL := 3) (r := rv.1) (by decide) rfl (Nat.le_of_ble_eq_true rfl) ?_
  intro p e s m args below meth c A Q C0 hend ls hl hS
  have h := hf
  clear hf
  replace hl : lv_has ls 3 [(0, .ref a_p1), (1, .ref a_p2)] := hl
  unfold f_X6_nightsItem at h
  obtain ⟨hx, hb, hml, hown, hts, hK, hA⟩ := id C0
  refine lv_aload_n hx hb dX6_nightsItem_0 rfl (lv_at hl 0 rfl) ?_
  refine lv_iconst (v := (1 : Int32)) hx hb dX6_nightsItem_1 (by decide) ?_
  refine lv_bipush (v := (99 : Int32)) hx hb dX6_nightsItem_2 (by decide) ?_
  obtain ⟨q1, hq1, h⟩ := s_bind h
  refine r_calliS (r := q1.1) (As := [.ref a_p1, .int (1 : Int32), .int (99 : Int32)]) (rest := []) (wc := (wd_X6_numberWithin cI cB cZ a_p1 a_p1_bytes p1_bytes p1_size p1_next p1_start p1_token p1_number)) (w1 := (wd_X6_numberWithin cI cB cZ a_p1 a_p1_bytes p1_bytes p1_size q1.2.1 q1.2.2.1 q1.2.2.2.1 q1.2.2.2.2)) (ws' := (wd_X6_nightsItem cI cB cZ a_p1 a_p1_bytes a_p2 a_p2_wets a_p2_guests a_p2_sights a_p2_remarks a_p2_marks a_p2_past p1_bytes p1_size q1.2.1 q1.2.2.1 q1.2.2.2.1 q1.2.2.2.2 p2_host p2_rooms p2_night p2_wheels p2_turned)) hx hb hml hown hts hK hA hl hS (c_X6_numberWithin l D cI cB cZ a_p1 a_p1_bytes p1_bytes p1_size p1_next p1_start p1_token p1_number (1 : Int32) (99 : Int32) _ _ hq1) (va_cwS 3 hts gX6_nightsItem_X6_numberWithin rfl rfl rfl (by decide +kernel) ⟨Nat.le_of_ble_eq_true rfl, Nat.le_of_ble_eq_true rfl⟩) [0, 1] rfl rfl rfl [.inr 0, .inr 1, .inl 2] rfl rfl rfl rfl (Nat.le_of_ble_eq_true rfl) dX6_nightsItem_4 (fun H locs hS => ?_)
  refine lv_istore_n (lv' := [(2, .int q1.1), (0, .ref a_p1), (1, .ref a_p2)]) hx hb dX6_nightsItem_7 rfl hl (by decide) rfl (fun ls hl => ?_)
  refine lv_iload_n hx hb dX6_nightsItem_8 rfl (lv_at hl 0 rfl) ?_
  refine lv_if_ge (tgt := 14) hx hb dX6_nightsItem_9 (by decide) (fun c2 => ?_) (fun c2 => ?_)
  · replace h := s_yes c2 h
    refine lv_aload_n hx hb dX6_nightsItem_14 rfl (lv_at hl 2 rfl) ?_
    refine lv_iload_n hx hb dX6_nightsItem_15 rfl (lv_at hl 0 rfl) ?_
    obtain ⟨q3, hq3, h⟩ := s_bind h
    refine r_callvV (As := [.int q1.1]) (rest := []) (wc := (wd_X1_sleep cI cB cZ a_p2 a_p2_wets a_p2_guests a_p2_sights a_p2_remarks a_p2_marks a_p2_past p2_host p2_rooms p2_night p2_wheels p2_turned)) (w1 := (wd_X1_sleep cI cB cZ a_p2 a_p2_wets a_p2_guests a_p2_sights a_p2_remarks a_p2_marks a_p2_past p2_host p2_rooms q3.1 q3.2 p2_turned)) (ws' := (wd_X6_nightsItem cI cB cZ a_p1 a_p1_bytes a_p2 a_p2_wets a_p2_guests a_p2_sights a_p2_remarks a_p2_marks a_p2_past p1_bytes p1_size q1.2.1 q1.2.2.1 q1.2.2.2.1 q1.2.2.2.2 p2_host p2_rooms q3.1 q3.2 p2_turned)) hx hb hml hown hts hK hA hl hS (c_X1_sleep l D cI cB cZ a_p2 a_p2_wets a_p2_guests a_p2_sights a_p2_remarks a_p2_marks a_p2_past p2_host p2_rooms p2_night p2_wheels p2_turned q1.1 _ _ hq3) (cwV 1 hts gX6_nightsItem_X1_sleep rfl rfl rfl (by decide +kernel) ⟨Nat.le_of_ble_eq_true rfl, Nat.le_of_ble_eq_true rfl⟩) 2 rfl rfl [2] rfl rfl rfl [.inl 0, .inl 1, .inr 0] rfl rfl rfl rfl (Nat.le_of_ble_eq_true rfl) dX6_nightsItem_16 (fun H locs hS => ?_)
    refine lv_aload_n hx hb dX6_nightsItem_19 rfl (lv_at hl 1 rfl) ?_
    obtain ⟨q4, hq4, h⟩ := s_bind h
    refine r_calliS (r := q4.1) (As := [.ref a_p1]) (rest := []) (wc := (wd_X6_stops cI cB cZ a_p1 a_p1_bytes p1_bytes p1_size q1.2.1 q1.2.2.1 q1.2.2.2.1 q1.2.2.2.2)) (w1 := (wd_X6_stops cI cB cZ a_p1 a_p1_bytes p1_bytes p1_size q4.2.1 q4.2.2.1 q4.2.2.2.1 q4.2.2.2.2)) (ws' := (wd_X6_nightsItem cI cB cZ a_p1 a_p1_bytes a_p2 a_p2_wets a_p2_guests a_p2_sights a_p2_remarks a_p2_marks a_p2_past p1_bytes p1_size q4.2.1 q4.2.2.1 q4.2.2.2.1 q4.2.2.2.2 p2_host p2_rooms q3.1 q3.2 p2_turned)) hx hb hml hown hts hK hA hl hS (c_X6_stops l D cI cB cZ a_p1 a_p1_bytes p1_bytes p1_size q1.2.1 q1.2.2.1 q1.2.2.2.1 q1.2.2.2.2 _ _ hq4) (va_cwS 1 hts gX6_nightsItem_X6_stops rfl rfl rfl (by decide +kernel) ⟨Nat.le_of_ble_eq_true rfl, Nat.le_of_ble_eq_true rfl⟩) [0, 1] rfl rfl rfl [.inr 0, .inr 1, .inl 2] rfl rfl rfl rfl (Nat.le_of_ble_eq_true rfl) dX6_nightsItem_20 (fun H locs hS => ?_)
    obtain ⟨g5, h⟩ := s_guard h
    obtain rfl := Option.some.inj h
    exact hend _ _ _ _ dX6_nightsItem_23 g5 hS
  replace h := s_no c2 h
  refine lv_iconst (v := (0 : Int32)) hx hb dX6_nightsItem_12 (by decide) ?_
  obtain rfl := Option.some.inj h
  exact hend _ _ _ _ dX6_nightsItem_13 (Or.inl rfl) hS

-- InnTurned$Wits.letIn(LInnTurned$House;IIII)Z
def wd_X7_letIn (cI cB cZ : ClassId) (a_this : Nat) (a_p1 : Nat) (a_p1_wets : Nat) (a_p1_guests : Nat) (a_p1_guests_cells : Nat) (a_p1_sights : Nat) (a_p1_remarks : Nat) (a_p1_marks : Nat) (a_p1_past : Nat)  (p1_wets : (Nat → Int32)) (p1_guests_cells : (Nat → Int32)) (p1_guests_rows : Int32) (p1_host : Int32) (p1_rooms : Int32) (p1_night : Int32) (p1_wheels : Int32) (p1_turned : Int32) : va_W := [(a_p1, .inr (0, [.ref a_p1_wets, .ref a_p1_guests, .ref a_p1_sights, .ref a_p1_remarks, .ref a_p1_marks, .ref a_p1_past, .int p1_host, .int p1_rooms, .int p1_night, .int p1_wheels, .int p1_turned])), (a_p1_wets, .inl (cI, 6, .inl p1_wets)), (a_p1_guests, .inr (3, [.int 4, .int 7, .ref a_p1_guests_cells, .int p1_guests_rows])), (a_p1_guests_cells, .inl (cI, 28, .inl p1_guests_cells))]
abbrev rm_X7_letIn : Room := { frames := 2, cells := 0, slots := 0, locals := 50 }
def f_X7_letIn  (p1_wets : (Nat → Int32)) (p1_guests_cells : (Nat → Int32)) (p1_guests_rows : Int32) (p1_host : Int32)  (p2 : Int32) (p3 : Int32) (p4 : Int32) (p5 : Int32) : Option (Int32) := ((f_X1_likely p1_guests_cells p1_guests_rows p2 p3 p4 p5).bind fun q1 => ((f_X1_wetOf p1_wets p5).bind fun q2 => ((f_X1_letsPass p1_host q2 (0 : Int32)).bind fun q3 => (if q3 < q1 then some ((0 : Int32)) else some ((1 : Int32))))))
set_option maxHeartbeats 4000000 in
set_option maxRecDepth 100000 in
theorem c_X7_letIn (l : Launch) (D : va_G) (cI cB cZ : ClassId) (a_this : Nat) (a_p1 : Nat) (a_p1_wets : Nat) (a_p1_guests : Nat) (a_p1_guests_cells : Nat) (a_p1_sights : Nat) (a_p1_remarks : Nat) (a_p1_marks : Nat) (a_p1_past : Nat) (p1_wets : (Nat → Int32)) (p1_guests_cells : (Nat → Int32)) (p1_guests_rows : Int32) (p1_host : Int32) (p1_rooms : Int32) (p1_night : Int32) (p1_wheels : Int32) (p1_turned : Int32) (p2 : Int32) (p3 : Int32) (p4 : Int32) (p5 : Int32) (rv : Int32) (sz : Nat) (hf : f_X7_letIn p1_wets p1_guests_cells p1_guests_rows p1_host p2 p3 p4 p5 = some rv) : Met l yX7_letIn wsX7_letIn rm_X7_letIn (sPc D vwCl (s_tys cI cB cZ) [.ref a_this, .ref a_p1, .int p2, .int p3, .int p4, .int p5] (wd_X7_letIn cI cB cZ a_this a_p1 a_p1_wets a_p1_guests a_p1_guests_cells a_p1_sights a_p1_remarks a_p1_marks a_p1_past p1_wets p1_guests_cells p1_guests_rows p1_host p1_rooms p1_night p1_wheels p1_turned) sz) (sQi D vwCl (wd_X7_letIn cI cB cZ a_this a_p1 a_p1_wets a_p1_guests a_p1_guests_cells a_p1_sights a_p1_remarks a_p1_marks a_p1_past p1_wets p1_guests_cells p1_guests_rows p1_host p1_rooms p1_night p1_wheels p1_turned) (wd_X7_letIn cI cB cZ a_this a_p1 a_p1_wets a_p1_guests a_p1_guests_cells a_p1_sights a_p1_remarks a_p1_marks a_p1_past p1_wets p1_guests_cells p1_guests_rows p1_host p1_rooms p1_night p1_wheels p1_turned) sz rv) 0 0 (va_A (wd_X7_letIn cI cB cZ a_this a_p1 a_p1_wets a_p1_guests a_p1_guests_cells a_p1_sights a_p1_remarks a_p1_marks a_p1_past p1_wets p1_guests_cells p1_guests_rows p1_host p1_rooms p1_night p1_wheels p1_turned) sz) := by
  refine s_enter_z (cc := cX7_letIn) (nL := 6) (r := rv) (by decide) rfl (Nat.le_of_ble_eq_true rfl) ?_
  intro p e s m args below meth c A Q C0 hend ls hl hS
  have h := hf
  clear hf
  replace hl : lv_has ls 6 [(0, .ref a_this), (1, .ref a_p1), (2, .int p2), (3, .int p3), (4, .int p4), (5, .int p5)] := hl
  unfold f_X7_letIn at h
  obtain ⟨hx, hb, hml, hown, hts, hK, hA⟩ := id C0
  refine lv_aload_n hx hb dX7_letIn_0 rfl (lv_at hl 1 rfl) ?_
  refine lv_iload_n hx hb dX7_letIn_1 rfl (lv_at hl 2 rfl) ?_
  refine lv_iload_n hx hb dX7_letIn_2 rfl (lv_at hl 3 rfl) ?_
  refine lv_iload hx hb dX7_letIn_3 (lv_at hl 4 rfl) ?_
  refine lv_iload hx hb dX7_letIn_5 (lv_at hl 5 rfl) ?_
  obtain ⟨q1, hq1, h⟩ := s_bind h
  refine u_calliV (r := q1) (As := [.int p2, .int p3, .int p4, .int p5]) (rest := []) (wc := (wd_X1_likely cI cB cZ a_p1 a_p1_wets a_p1_guests a_p1_guests_cells a_p1_sights a_p1_remarks a_p1_marks a_p1_past p1_guests_cells p1_guests_rows p1_host p1_rooms p1_night p1_wheels p1_turned)) hx hb hml hown hts hK hA hl hS (c_X1_likely l D cI cB cZ a_p1 a_p1_wets a_p1_guests a_p1_guests_cells a_p1_sights a_p1_remarks a_p1_marks a_p1_past p1_guests_cells p1_guests_rows p1_host p1_rooms p1_night p1_wheels p1_turned p2 p3 p4 p5 _ _ hq1) (cwV 4 hts gX7_letIn_X1_likely rfl rfl rfl (by decide +kernel) ⟨Nat.le_of_ble_eq_true rfl, Nat.le_of_ble_eq_true rfl⟩) 0 rfl rfl [0, 2, 3] rfl rfl rfl rfl (Nat.le_of_ble_eq_true rfl) dX7_letIn_7 (fun H locs hS => ?_)
  refine lv_aload_n hx hb dX7_letIn_10 rfl (lv_at hl 1 rfl) ?_
  refine lv_aload_n hx hb dX7_letIn_11 rfl (lv_at hl 1 rfl) ?_
  refine lv_iload hx hb dX7_letIn_12 (lv_at hl 5 rfl) ?_
  obtain ⟨q2, hq2, h⟩ := s_bind h
  refine u_calliV (r := q2) (As := [.int p5]) (rest := [.ref a_p1, .int q1]) (wc := (wd_X1_wetOf cI cB cZ a_p1 a_p1_wets a_p1_guests a_p1_sights a_p1_remarks a_p1_marks a_p1_past p1_wets p1_host p1_rooms p1_night p1_wheels p1_turned)) hx hb hml hown hts hK hA hl hS (c_X1_wetOf l D cI cB cZ a_p1 a_p1_wets a_p1_guests a_p1_sights a_p1_remarks a_p1_marks a_p1_past p1_wets p1_host p1_rooms p1_night p1_wheels p1_turned p5 _ _ hq2) (cwV 1 hts gX7_letIn_X1_wetOf rfl rfl rfl (by decide +kernel) ⟨Nat.le_of_ble_eq_true rfl, Nat.le_of_ble_eq_true rfl⟩) 0 rfl rfl [0, 1] rfl rfl rfl rfl (Nat.le_of_ble_eq_true rfl) dX7_letIn_14 (fun H locs hS => ?_)
  refine lv_iconst (v := (0 : Int32)) hx hb dX7_letIn_17 (by decide) ?_
  obtain ⟨q3, hq3, h⟩ := s_bind h
  refine u_calliV (r := q3) (As := [.int q2, .int (0 : Int32)]) (rest := [.int q1]) (wc := (wd_X1_letsPass cI cB cZ a_p1 a_p1_wets a_p1_guests a_p1_sights a_p1_remarks a_p1_marks a_p1_past p1_host p1_rooms p1_night p1_wheels p1_turned)) hx hb hml hown hts hK hA hl hS (c_X1_letsPass l D cI cB cZ a_p1 a_p1_wets a_p1_guests a_p1_sights a_p1_remarks a_p1_marks a_p1_past p1_host p1_rooms p1_night p1_wheels p1_turned q2 (0 : Int32) _ _ hq3) (cwV 2 hts gX7_letIn_X1_letsPass rfl rfl rfl (by decide +kernel) ⟨Nat.le_of_ble_eq_true rfl, Nat.le_of_ble_eq_true rfl⟩) 0 rfl rfl [0] rfl rfl rfl rfl (Nat.le_of_ble_eq_true rfl) dX7_letIn_18 (fun H locs hS => ?_)
  refine lv_icmp_gt (tgt := 28) hx hb dX7_letIn_21 (by decide) (fun c4 => ?_) (fun c4 => ?_)
  · replace h := s_yes c4 h
    refine lv_iconst (v := (0 : Int32)) hx hb dX7_letIn_28 (by decide) ?_
    obtain rfl := Option.some.inj h
    exact hend _ _ _ _ dX7_letIn_29 (Or.inl rfl) hS
  replace h := s_no c4 h
  refine lv_iconst (v := (1 : Int32)) hx hb dX7_letIn_24 (by decide) ?_
  refine lv_goto (tgt := 29) hx hb dX7_letIn_25 (by decide) ?_
  obtain rfl := Option.some.inj h
  exact hend _ _ _ _ dX7_letIn_29 (Or.inr rfl) hS

