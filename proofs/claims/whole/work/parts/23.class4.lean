-- InnTurned$Wits.fitsSights(LInnTurned$House;II)Z
def wd_X7_fitsSights (cI cB cZ : ClassId) (a_this : Nat) (a_answers : Nat) (a_p1 : Nat) (a_p1_wets : Nat) (a_p1_guests : Nat) (a_p1_guests_cells : Nat) (a_p1_sights : Nat) (a_p1_sights_cells : Nat) (a_p1_remarks : Nat) (a_p1_marks : Nat) (a_p1_past : Nat)  (p1_wets : (Nat → Int32)) (p1_guests_cells : (Nat → Int32)) (p1_guests_rows : Int32) (p1_sights_cells : (Nat → Int32)) (p1_sights_rows : Int32) (p1_host : Int32) (p1_rooms : Int32) (p1_night : Int32) (p1_wheels : Int32) (p1_turned : Int32) : va_W := [(a_this, .inr (4, [.ref a_answers])), (a_p1, .inr (0, [.ref a_p1_wets, .ref a_p1_guests, .ref a_p1_sights, .ref a_p1_remarks, .ref a_p1_marks, .ref a_p1_past, .int p1_host, .int p1_rooms, .int p1_night, .int p1_wheels, .int p1_turned])), (a_p1_wets, .inl (cI, 6, .inl p1_wets)), (a_p1_guests, .inr (3, [.int 4, .int 7, .ref a_p1_guests_cells, .int p1_guests_rows])), (a_p1_guests_cells, .inl (cI, 28, .inl p1_guests_cells)), (a_p1_sights, .inr (3, [.int 4, .int 5, .ref a_p1_sights_cells, .int p1_sights_rows])), (a_p1_sights_cells, .inl (cI, 20, .inl p1_sights_cells))]
abbrev rm_X7_fitsSights : Room := { frames := 3, cells := 0, slots := 0, locals := 75 }
set_option maxRecDepth 20000 in
theorem inX1_X7_fitsSights : ∀ w ∈ u_ws RX1 TX1 11, w ∈ wsX7_fitsSights := by decide +kernel
set_option maxRecDepth 20000 in
theorem inX5_X7_fitsSights : ∀ w ∈ u_ws RX5 TX5 4, w ∈ wsX7_fitsSights := by decide +kernel
def f_X7_fitsSights_b83 (k_b9 : Int32 → Int32 → Int32 → Option (Int32))  (p1_wets : (Nat → Int32)) (p1_guests_cells : (Nat → Int32)) (p1_guests_rows : Int32) (p1_sights_cells : (Nat → Int32)) (p1_sights_rows : Int32) (p1_host : Int32)  (l2 : Int32) (l3 : Int32) (l5 : Int32) : Option (Int32) := k_b9 l2 l3 (l5 + (1 : Int32))
set_option maxHeartbeats 4000000 in
set_option maxRecDepth 100000 in
theorem w_X7_fitsSights_b83 {p : Program} {l : Launch} {e : Env} {s : State} {m : MethodId} {args : Array Value} {below : List Frame} {meth : Method} {c : Code} {A : Nat → Prop} {Q : State → Prop} {D : va_G} {cI cB cZ : ClassId} {a_this a_answers a_p1 a_p1_wets a_p1_guests a_p1_guests_cells a_p1_sights a_p1_sights_cells a_p1_remarks a_p1_marks a_p1_past : Nat} {p1_wets : (Nat → Int32)} {p1_guests_cells : (Nat → Int32)} {p1_guests_rows : Int32} {p1_sights_cells : (Nat → Int32)} {p1_sights_rows : Int32} {p1_host : Int32} {p1_rooms : Int32} {p1_night : Int32} {p1_wheels : Int32} {p1_turned : Int32} (C0 : Cx p s m args c cX7_fitsSights 7 RX7 wsX7_fitsSights D (s_tys cI cB cZ) A) {rv : Int32} (hend : ∀ (pc : Nat) (H : Heap) (locs : List Loc) (ls : Array Slot), decode cX7_fitsSights pc = .ok (.ireturn, 1) → (rv = 0 ∨ rv = 1) → sS D vwCl A s.heap (wd_X7_fitsSights cI cB cZ a_this a_answers a_p1 a_p1_wets a_p1_guests a_p1_guests_cells a_p1_sights a_p1_sights_cells a_p1_remarks a_p1_marks a_p1_past p1_wets p1_guests_cells p1_guests_rows p1_sights_cells p1_sights_rows p1_host p1_rooms p1_night p1_wheels p1_turned) H locs → W p l e rm_X7_fitsSights s m args below meth c H locs 0 0 Q (F0 m pc ls [.int rv])) (k_b9 : Int32 → Int32 → Int32 → Option (Int32)) (hk_b9 : ∀  (l2 : Int32) (l3 : Int32) (l5 : Int32) (H : Heap) (locs : List Loc) (ls : Array Slot), k_b9 l2 l3 l5 = some rv → sS D vwCl A s.heap (wd_X7_fitsSights cI cB cZ a_this a_answers a_p1 a_p1_wets a_p1_guests a_p1_guests_cells a_p1_sights a_p1_sights_cells a_p1_remarks a_p1_marks a_p1_past p1_wets p1_guests_cells p1_guests_rows p1_sights_cells p1_sights_rows p1_host p1_rooms p1_night p1_wheels p1_turned) H locs → lv_has ls 7 [(0, .ref a_this), (1, .ref a_p1), (2, .int l2), (3, .int l3), (4, .ref a_p1_sights), (5, .int l5)] → W p l e rm_X7_fitsSights s m args below meth c H locs 0 0 Q (F0 m 9 ls [])) : ∀  (l2 : Int32) (l3 : Int32) (l5 : Int32) (H : Heap) (locs : List Loc) (ls : Array Slot), f_X7_fitsSights_b83 k_b9 p1_wets p1_guests_cells p1_guests_rows p1_sights_cells p1_sights_rows p1_host l2 l3 l5 = some rv → sS D vwCl A s.heap (wd_X7_fitsSights cI cB cZ a_this a_answers a_p1 a_p1_wets a_p1_guests a_p1_guests_cells a_p1_sights a_p1_sights_cells a_p1_remarks a_p1_marks a_p1_past p1_wets p1_guests_cells p1_guests_rows p1_sights_cells p1_sights_rows p1_host p1_rooms p1_night p1_wheels p1_turned) H locs → lv_has ls 7 [(0, .ref a_this), (1, .ref a_p1), (2, .int l2), (3, .int l3), (4, .ref a_p1_sights), (5, .int l5)] → W p l e rm_X7_fitsSights s m args below meth c H locs 0 0 Q (F0 m 83 ls []) := by
  obtain ⟨hx, hb, hml, hown, hts, hK, hA⟩ := id C0
  have inX1 : ∀ w ∈ u_ws RX1 TX1 11, w ∈ wsX7_fitsSights := inX1_X7_fitsSights
  have inX5 : ∀ w ∈ u_ws RX5 TX5 4, w ∈ wsX7_fitsSights := inX5_X7_fitsSights
  intro l2 l3 l5 H locs ls h hS hl
  unfold f_X7_fitsSights_b83 at h
  refine lv_iinc (v := (l5 + (1 : Int32))) (lv' := [(5, .int (l5 + (1 : Int32))), (0, .ref a_this), (1, .ref a_p1), (2, .int l2), (3, .int l3), (4, .ref a_p1_sights)]) hx hb dX7_fitsSights_83 hl (k := 5) rfl rfl (by decide) rfl (fun ls hl => ?_)
  refine lv_goto (tgt := 9) hx hb dX7_fitsSights_86 (by decide) ?_
  exact hk_b9 l2 l3 (l5 + (1 : Int32)) _ _ _ h hS (lv_sub hl [1, 2, 3, 4, 5, 0] rfl)
def f_X7_fitsSights_b78 (k_b9 : Int32 → Int32 → Int32 → Option (Int32))  (p1_wets : (Nat → Int32)) (p1_guests_cells : (Nat → Int32)) (p1_guests_rows : Int32) (p1_sights_cells : (Nat → Int32)) (p1_sights_rows : Int32) (p1_host : Int32)  (l2 : Int32) (l3 : Int32) (l5 : Int32) (t0 : Int32) (t1 : Int32) : Option (Int32) := (if t1 = t0 then f_X7_fitsSights_b83 k_b9 p1_wets p1_guests_cells p1_guests_rows p1_sights_cells p1_sights_rows p1_host l2 l3 l5 else some ((0 : Int32)))
set_option maxHeartbeats 4000000 in
set_option maxRecDepth 100000 in
theorem w_X7_fitsSights_b78 {p : Program} {l : Launch} {e : Env} {s : State} {m : MethodId} {args : Array Value} {below : List Frame} {meth : Method} {c : Code} {A : Nat → Prop} {Q : State → Prop} {D : va_G} {cI cB cZ : ClassId} {a_this a_answers a_p1 a_p1_wets a_p1_guests a_p1_guests_cells a_p1_sights a_p1_sights_cells a_p1_remarks a_p1_marks a_p1_past : Nat} {p1_wets : (Nat → Int32)} {p1_guests_cells : (Nat → Int32)} {p1_guests_rows : Int32} {p1_sights_cells : (Nat → Int32)} {p1_sights_rows : Int32} {p1_host : Int32} {p1_rooms : Int32} {p1_night : Int32} {p1_wheels : Int32} {p1_turned : Int32} (C0 : Cx p s m args c cX7_fitsSights 7 RX7 wsX7_fitsSights D (s_tys cI cB cZ) A) {rv : Int32} (hend : ∀ (pc : Nat) (H : Heap) (locs : List Loc) (ls : Array Slot), decode cX7_fitsSights pc = .ok (.ireturn, 1) → (rv = 0 ∨ rv = 1) → sS D vwCl A s.heap (wd_X7_fitsSights cI cB cZ a_this a_answers a_p1 a_p1_wets a_p1_guests a_p1_guests_cells a_p1_sights a_p1_sights_cells a_p1_remarks a_p1_marks a_p1_past p1_wets p1_guests_cells p1_guests_rows p1_sights_cells p1_sights_rows p1_host p1_rooms p1_night p1_wheels p1_turned) H locs → W p l e rm_X7_fitsSights s m args below meth c H locs 0 0 Q (F0 m pc ls [.int rv])) (k_b9 : Int32 → Int32 → Int32 → Option (Int32)) (hk_b9 : ∀  (l2 : Int32) (l3 : Int32) (l5 : Int32) (H : Heap) (locs : List Loc) (ls : Array Slot), k_b9 l2 l3 l5 = some rv → sS D vwCl A s.heap (wd_X7_fitsSights cI cB cZ a_this a_answers a_p1 a_p1_wets a_p1_guests a_p1_guests_cells a_p1_sights a_p1_sights_cells a_p1_remarks a_p1_marks a_p1_past p1_wets p1_guests_cells p1_guests_rows p1_sights_cells p1_sights_rows p1_host p1_rooms p1_night p1_wheels p1_turned) H locs → lv_has ls 7 [(0, .ref a_this), (1, .ref a_p1), (2, .int l2), (3, .int l3), (4, .ref a_p1_sights), (5, .int l5)] → W p l e rm_X7_fitsSights s m args below meth c H locs 0 0 Q (F0 m 9 ls [])) : ∀  (l2 : Int32) (l3 : Int32) (l5 : Int32) (t0 : Int32) (t1 : Int32) (H : Heap) (locs : List Loc) (ls : Array Slot), f_X7_fitsSights_b78 k_b9 p1_wets p1_guests_cells p1_guests_rows p1_sights_cells p1_sights_rows p1_host l2 l3 l5 t0 t1 = some rv → sS D vwCl A s.heap (wd_X7_fitsSights cI cB cZ a_this a_answers a_p1 a_p1_wets a_p1_guests a_p1_guests_cells a_p1_sights a_p1_sights_cells a_p1_remarks a_p1_marks a_p1_past p1_wets p1_guests_cells p1_guests_rows p1_sights_cells p1_sights_rows p1_host p1_rooms p1_night p1_wheels p1_turned) H locs → lv_has ls 7 [(0, .ref a_this), (1, .ref a_p1), (2, .int l2), (3, .int l3), (4, .ref a_p1_sights), (5, .int l5)] → W p l e rm_X7_fitsSights s m args below meth c H locs 0 0 Q (F0 m 78 ls [.int t0, .int t1]) := by
  obtain ⟨hx, hb, hml, hown, hts, hK, hA⟩ := id C0
  have inX1 : ∀ w ∈ u_ws RX1 TX1 11, w ∈ wsX7_fitsSights := inX1_X7_fitsSights
  have inX5 : ∀ w ∈ u_ws RX5 TX5 4, w ∈ wsX7_fitsSights := inX5_X7_fitsSights
  intro l2 l3 l5 t0 t1 H locs ls h hS hl
  unfold f_X7_fitsSights_b78 at h
  refine lv_icmp_eq (tgt := 83) hx hb dX7_fitsSights_78 (by decide) (fun c1 => ?_) (fun c1 => ?_)
  · replace h := s_yes c1 h
    exact w_X7_fitsSights_b83 C0 hend k_b9 hk_b9 l2 l3 l5 _ _ _ h hS (lv_sub hl [0, 1, 2, 3, 4, 5] rfl)
  replace h := s_no c1 h
  refine lv_iconst (v := (0 : Int32)) hx hb dX7_fitsSights_81 (by decide) ?_
  obtain rfl := Option.some.inj h
  exact hend _ _ _ _ dX7_fitsSights_82 (Or.inl rfl) hS
def f_X7_fitsSights_b9  (p1_wets : (Nat → Int32)) (p1_guests_cells : (Nat → Int32)) (p1_guests_rows : Int32) (p1_sights_cells : (Nat → Int32)) (p1_sights_rows : Int32) (p1_host : Int32) : Nat → Int32 → Int32 → Int32 → Option (Int32)
  | 0, _, _, _ => none
  | fu + 1, l2, l3, l5 => (if p1_sights_rows ≤ l5 then some ((1 : Int32)) else ((f_X5_cell 20 (4 : Int32) p1_sights_cells p1_sights_rows l5 (0 : Int32)).bind fun q3 => (if q3 = l2 then ((f_X5_cell 20 (4 : Int32) p1_sights_cells p1_sights_rows l5 (1 : Int32)).bind fun q5 => ((f_X5_cell 20 (4 : Int32) p1_sights_cells p1_sights_rows l5 (2 : Int32)).bind fun q6 => ((f_X7_letIn p1_wets p1_guests_cells p1_guests_rows p1_host l2 q5 l3 q6).bind fun q7 => ((f_X5_cell 20 (4 : Int32) p1_sights_cells p1_sights_rows l5 (3 : Int32)).bind fun q8 => (if q8 = (1 : Int32) then f_X7_fitsSights_b78 (f_X7_fitsSights_b9 p1_wets p1_guests_cells p1_guests_rows p1_sights_cells p1_sights_rows p1_host fu) p1_wets p1_guests_cells p1_guests_rows p1_sights_cells p1_sights_rows p1_host l2 l3 l5 (1 : Int32) q7 else f_X7_fitsSights_b78 (f_X7_fitsSights_b9 p1_wets p1_guests_cells p1_guests_rows p1_sights_cells p1_sights_rows p1_host fu) p1_wets p1_guests_cells p1_guests_rows p1_sights_cells p1_sights_rows p1_host l2 l3 l5 (0 : Int32) q7))))) else f_X7_fitsSights_b83 (f_X7_fitsSights_b9 p1_wets p1_guests_cells p1_guests_rows p1_sights_cells p1_sights_rows p1_host fu) p1_wets p1_guests_cells p1_guests_rows p1_sights_cells p1_sights_rows p1_host l2 l3 l5)))
set_option maxHeartbeats 4000000 in
set_option maxRecDepth 100000 in
theorem w_X7_fitsSights_b9 {p : Program} {l : Launch} {e : Env} {s : State} {m : MethodId} {args : Array Value} {below : List Frame} {meth : Method} {c : Code} {A : Nat → Prop} {Q : State → Prop} {D : va_G} {cI cB cZ : ClassId} {a_this a_answers a_p1 a_p1_wets a_p1_guests a_p1_guests_cells a_p1_sights a_p1_sights_cells a_p1_remarks a_p1_marks a_p1_past : Nat} {p1_wets : (Nat → Int32)} {p1_guests_cells : (Nat → Int32)} {p1_guests_rows : Int32} {p1_sights_cells : (Nat → Int32)} {p1_sights_rows : Int32} {p1_host : Int32} {p1_rooms : Int32} {p1_night : Int32} {p1_wheels : Int32} {p1_turned : Int32} (C0 : Cx p s m args c cX7_fitsSights 7 RX7 wsX7_fitsSights D (s_tys cI cB cZ) A) {rv : Int32} (hend : ∀ (pc : Nat) (H : Heap) (locs : List Loc) (ls : Array Slot), decode cX7_fitsSights pc = .ok (.ireturn, 1) → (rv = 0 ∨ rv = 1) → sS D vwCl A s.heap (wd_X7_fitsSights cI cB cZ a_this a_answers a_p1 a_p1_wets a_p1_guests a_p1_guests_cells a_p1_sights a_p1_sights_cells a_p1_remarks a_p1_marks a_p1_past p1_wets p1_guests_cells p1_guests_rows p1_sights_cells p1_sights_rows p1_host p1_rooms p1_night p1_wheels p1_turned) H locs → W p l e rm_X7_fitsSights s m args below meth c H locs 0 0 Q (F0 m pc ls [.int rv])) : ∀ (fu : Nat)  (l2 : Int32) (l3 : Int32) (l5 : Int32) (H : Heap) (locs : List Loc) (ls : Array Slot), f_X7_fitsSights_b9 p1_wets p1_guests_cells p1_guests_rows p1_sights_cells p1_sights_rows p1_host fu l2 l3 l5 = some rv → sS D vwCl A s.heap (wd_X7_fitsSights cI cB cZ a_this a_answers a_p1 a_p1_wets a_p1_guests a_p1_guests_cells a_p1_sights a_p1_sights_cells a_p1_remarks a_p1_marks a_p1_past p1_wets p1_guests_cells p1_guests_rows p1_sights_cells p1_sights_rows p1_host p1_rooms p1_night p1_wheels p1_turned) H locs → lv_has ls 7 [(0, .ref a_this), (1, .ref a_p1), (2, .int l2), (3, .int l3), (4, .ref a_p1_sights), (5, .int l5)] → W p l e rm_X7_fitsSights s m args below meth c H locs 0 0 Q (F0 m 9 ls []) := by
  obtain ⟨hx, hb, hml, hown, hts, hK, hA⟩ := id C0
  have inX1 : ∀ w ∈ u_ws RX1 TX1 11, w ∈ wsX7_fitsSights := inX1_X7_fitsSights
  have inX5 : ∀ w ∈ u_ws RX5 TX5 4, w ∈ wsX7_fitsSights := inX5_X7_fitsSights
  intro fu
  induction fu with
  | zero => intro l2 l3 l5 H locs ls h; cases h
  | succ fu ih =>
    intro l2 l3 l5 H locs ls h hS hl
    rw [f_X7_fitsSights_b9] at h
    refine lv_iload hx hb dX7_fitsSights_9 (lv_at hl 5 rfl) ?_
    refine lv_aload hx hb dX7_fitsSights_11 (lv_at hl 4 rfl) ?_
    refine s_getN (C := RX5) (T := TX5) (N := 4) hx hb hts inX5 hown hK hS 5 rfl rfl 3 (by decide) 5 rfl rfl rfl dX7_fitsSights_13 ?_
    refine lv_icmp_ge (tgt := 89) hx hb dX7_fitsSights_16 (by decide) (fun c2 => ?_) (fun c2 => ?_)
    · replace h := s_yes c2 h
      refine lv_iconst (v := (1 : Int32)) hx hb dX7_fitsSights_89 (by decide) ?_
      obtain rfl := Option.some.inj h
      exact hend _ _ _ _ dX7_fitsSights_90 (Or.inr rfl) hS
    replace h := s_no c2 h
    refine lv_aload hx hb dX7_fitsSights_19 (lv_at hl 4 rfl) ?_
    refine lv_iload hx hb dX7_fitsSights_21 (lv_at hl 5 rfl) ?_
    refine lv_iconst (v := (0 : Int32)) hx hb dX7_fitsSights_23 (by decide) ?_
    obtain ⟨q3, hq3, h⟩ := s_bind h
    refine u_calliV (r := q3) (As := [.int l5, .int (0 : Int32)]) (rest := []) (wc := (wd_X5_cell cI cB cZ a_p1_sights a_p1_sights_cells 20 (4 : Int32) (5 : Int32) p1_sights_cells p1_sights_rows)) hx hb hml hown hts hK hA hl hS (c_X5_cell l D cI cB cZ a_p1_sights a_p1_sights_cells 20 (4 : Int32) (5 : Int32) p1_sights_cells p1_sights_rows l5 (0 : Int32) _ _ hq3) (cwV 2 hts gX7_fitsSights_X5_cell rfl rfl rfl (by decide +kernel) ⟨Nat.le_of_ble_eq_true rfl, Nat.le_of_ble_eq_true rfl⟩) 5 rfl rfl [5, 6] rfl rfl rfl rfl (Nat.le_of_ble_eq_true rfl) dX7_fitsSights_24 (fun H locs hS => ?_)
    refine lv_iload_n hx hb dX7_fitsSights_27 rfl (lv_at hl 2 rfl) ?_
    refine lv_icmp_eq (tgt := 34) hx hb dX7_fitsSights_28 (by decide) (fun c4 => ?_) (fun c4 => ?_)
    · replace h := s_yes c4 h
      refine lv_aload_n hx hb dX7_fitsSights_34 rfl (lv_at hl 0 rfl) ?_
      refine lv_aload_n hx hb dX7_fitsSights_35 rfl (lv_at hl 1 rfl) ?_
      refine lv_iload_n hx hb dX7_fitsSights_36 rfl (lv_at hl 2 rfl) ?_
      refine lv_aload hx hb dX7_fitsSights_37 (lv_at hl 4 rfl) ?_
      refine lv_iload hx hb dX7_fitsSights_39 (lv_at hl 5 rfl) ?_
      refine lv_iconst (v := (1 : Int32)) hx hb dX7_fitsSights_41 (by decide) ?_
      obtain ⟨q5, hq5, h⟩ := s_bind h
      refine u_calliV (r := q5) (As := [.int l5, .int (1 : Int32)]) (rest := [.int l2, .ref a_p1, .ref a_this]) (wc := (wd_X5_cell cI cB cZ a_p1_sights a_p1_sights_cells 20 (4 : Int32) (5 : Int32) p1_sights_cells p1_sights_rows)) hx hb hml hown hts hK hA hl hS (c_X5_cell l D cI cB cZ a_p1_sights a_p1_sights_cells 20 (4 : Int32) (5 : Int32) p1_sights_cells p1_sights_rows l5 (1 : Int32) _ _ hq5) (cwV 2 hts gX7_fitsSights_X5_cell rfl rfl rfl (by decide +kernel) ⟨Nat.le_of_ble_eq_true rfl, Nat.le_of_ble_eq_true rfl⟩) 5 rfl rfl [5, 6] rfl rfl rfl rfl (Nat.le_of_ble_eq_true rfl) dX7_fitsSights_42 (fun H locs hS => ?_)
      refine lv_iload_n hx hb dX7_fitsSights_45 rfl (lv_at hl 3 rfl) ?_
      refine lv_aload hx hb dX7_fitsSights_46 (lv_at hl 4 rfl) ?_
      refine lv_iload hx hb dX7_fitsSights_48 (lv_at hl 5 rfl) ?_
      refine lv_iconst (v := (2 : Int32)) hx hb dX7_fitsSights_50 (by decide) ?_
      obtain ⟨q6, hq6, h⟩ := s_bind h
      refine u_calliV (r := q6) (As := [.int l5, .int (2 : Int32)]) (rest := [.int l3, .int q5, .int l2, .ref a_p1, .ref a_this]) (wc := (wd_X5_cell cI cB cZ a_p1_sights a_p1_sights_cells 20 (4 : Int32) (5 : Int32) p1_sights_cells p1_sights_rows)) hx hb hml hown hts hK hA hl hS (c_X5_cell l D cI cB cZ a_p1_sights a_p1_sights_cells 20 (4 : Int32) (5 : Int32) p1_sights_cells p1_sights_rows l5 (2 : Int32) _ _ hq6) (cwV 2 hts gX7_fitsSights_X5_cell rfl rfl rfl (by decide +kernel) ⟨Nat.le_of_ble_eq_true rfl, Nat.le_of_ble_eq_true rfl⟩) 5 rfl rfl [5, 6] rfl rfl rfl rfl (Nat.le_of_ble_eq_true rfl) dX7_fitsSights_51 (fun H locs hS => ?_)
      obtain ⟨q7, hq7, h⟩ := s_bind h
      refine u_calliV (r := q7) (As := [.ref a_p1, .int l2, .int q5, .int l3, .int q6]) (rest := []) (wc := (wd_X7_letIn cI cB cZ a_this a_p1 a_p1_wets a_p1_guests a_p1_guests_cells a_p1_sights a_p1_remarks a_p1_marks a_p1_past p1_wets p1_guests_cells p1_guests_rows p1_host p1_rooms p1_night p1_wheels p1_turned)) hx hb hml hown hts hK hA hl hS (c_X7_letIn l D cI cB cZ a_this a_p1 a_p1_wets a_p1_guests a_p1_guests_cells a_p1_sights a_p1_remarks a_p1_marks a_p1_past p1_wets p1_guests_cells p1_guests_rows p1_host p1_rooms p1_night p1_wheels p1_turned l2 q5 l3 q6 _ _ hq7) (cwV 5 hts gX7_fitsSights_X7_letIn rfl rfl rfl (by decide +kernel) ⟨Nat.le_of_ble_eq_true rfl, Nat.le_of_ble_eq_true rfl⟩) 0 rfl rfl [1, 2, 3, 4] rfl rfl rfl rfl (Nat.le_of_ble_eq_true rfl) dX7_fitsSights_54 (fun H locs hS => ?_)
      refine lv_istore (lv' := [(6, .int q7), (0, .ref a_this), (1, .ref a_p1), (2, .int l2), (3, .int l3), (4, .ref a_p1_sights), (5, .int l5)]) hx hb dX7_fitsSights_57 hl (by decide) rfl (fun ls hl => ?_)
      refine lv_iload hx hb dX7_fitsSights_59 (lv_at hl 0 rfl) ?_
      refine lv_aload hx hb dX7_fitsSights_61 (lv_at hl 5 rfl) ?_
      refine lv_iload hx hb dX7_fitsSights_63 (lv_at hl 6 rfl) ?_
      refine lv_iconst (v := (3 : Int32)) hx hb dX7_fitsSights_65 (by decide) ?_
      obtain ⟨q8, hq8, h⟩ := s_bind h
      refine u_calliV (r := q8) (As := [.int l5, .int (3 : Int32)]) (rest := [.int q7]) (wc := (wd_X5_cell cI cB cZ a_p1_sights a_p1_sights_cells 20 (4 : Int32) (5 : Int32) p1_sights_cells p1_sights_rows)) hx hb hml hown hts hK hA hl hS (c_X5_cell l D cI cB cZ a_p1_sights a_p1_sights_cells 20 (4 : Int32) (5 : Int32) p1_sights_cells p1_sights_rows l5 (3 : Int32) _ _ hq8) (cwV 2 hts gX7_fitsSights_X5_cell rfl rfl rfl (by decide +kernel) ⟨Nat.le_of_ble_eq_true rfl, Nat.le_of_ble_eq_true rfl⟩) 5 rfl rfl [5, 6] rfl rfl rfl rfl (Nat.le_of_ble_eq_true rfl) dX7_fitsSights_66 (fun H locs hS => ?_)
      refine lv_iconst (v := (1 : Int32)) hx hb dX7_fitsSights_69 (by decide) ?_
      refine lv_icmp_ne (tgt := 77) hx hb dX7_fitsSights_70 (by decide) (fun c9 => ?_) (fun c9 => ?_)
      · replace h := s_no c9 h
        refine lv_iconst (v := (0 : Int32)) hx hb dX7_fitsSights_77 (by decide) ?_
        exact w_X7_fitsSights_b78 C0 hend (f_X7_fitsSights_b9 p1_wets p1_guests_cells p1_guests_rows p1_sights_cells p1_sights_rows p1_host fu) ih l2 l3 l5 (0 : Int32) q7 _ _ _ h hS (lv_sub hl [1, 2, 3, 4, 5, 6] rfl)
      replace h := s_yes c9 h
      refine lv_iconst (v := (1 : Int32)) hx hb dX7_fitsSights_73 (by decide) ?_
      refine lv_goto (tgt := 78) hx hb dX7_fitsSights_74 (by decide) ?_
      exact w_X7_fitsSights_b78 C0 hend (f_X7_fitsSights_b9 p1_wets p1_guests_cells p1_guests_rows p1_sights_cells p1_sights_rows p1_host fu) ih l2 l3 l5 (1 : Int32) q7 _ _ _ h hS (lv_sub hl [1, 2, 3, 4, 5, 6] rfl)
    replace h := s_no c4 h
    refine lv_goto (tgt := 83) hx hb dX7_fitsSights_31 (by decide) ?_
    exact w_X7_fitsSights_b83 C0 hend (f_X7_fitsSights_b9 p1_wets p1_guests_cells p1_guests_rows p1_sights_cells p1_sights_rows p1_host fu) ih l2 l3 l5 _ _ _ h hS (lv_sub hl [0, 1, 2, 3, 4, 5] rfl)
def f_X7_fitsSights  (p1_wets : (Nat → Int32)) (p1_guests_cells : (Nat → Int32)) (p1_guests_rows : Int32) (p1_sights_cells : (Nat → Int32)) (p1_sights_rows : Int32) (p1_host : Int32)  (p2 : Int32) (p3 : Int32) : Option (Int32) := f_X7_fitsSights_b9  p1_wets p1_guests_cells p1_guests_rows p1_sights_cells p1_sights_rows p1_host s_fuel p2 p3 (0 : Int32)
set_option maxHeartbeats 4000000 in
set_option maxRecDepth 100000 in
theorem c_X7_fitsSights (l : Launch) (D : va_G) (cI cB cZ : ClassId) (a_this : Nat) (a_answers : Nat) (a_p1 : Nat) (a_p1_wets : Nat) (a_p1_guests : Nat) (a_p1_guests_cells : Nat) (a_p1_sights : Nat) (a_p1_sights_cells : Nat) (a_p1_remarks : Nat) (a_p1_marks : Nat) (a_p1_past : Nat) (p1_wets : (Nat → Int32)) (p1_guests_cells : (Nat → Int32)) (p1_guests_rows : Int32) (p1_sights_cells : (Nat → Int32)) (p1_sights_rows : Int32) (p1_host : Int32) (p1_rooms : Int32) (p1_night : Int32) (p1_wheels : Int32) (p1_turned : Int32) (p2 : Int32) (p3 : Int32) (rv : Int32) (sz : Nat) (hf : f_X7_fitsSights p1_wets p1_guests_cells p1_guests_rows p1_sights_cells p1_sights_rows p1_host p2 p3 = some rv) : Met l yX7_fitsSights wsX7_fitsSights rm_X7_fitsSights (sPc D vwCl (s_tys cI cB cZ) [.ref a_this, .ref a_p1, .int p2, .int p3] (wd_X7_fitsSights cI cB cZ a_this a_answers a_p1 a_p1_wets a_p1_guests a_p1_guests_cells a_p1_sights a_p1_sights_cells a_p1_remarks a_p1_marks a_p1_past p1_wets p1_guests_cells p1_guests_rows p1_sights_cells p1_sights_rows p1_host p1_rooms p1_night p1_wheels p1_turned) sz) (sQi D vwCl (wd_X7_fitsSights cI cB cZ a_this a_answers a_p1 a_p1_wets a_p1_guests a_p1_guests_cells a_p1_sights a_p1_sights_cells a_p1_remarks a_p1_marks a_p1_past p1_wets p1_guests_cells p1_guests_rows p1_sights_cells p1_sights_rows p1_host p1_rooms p1_night p1_wheels p1_turned) (wd_X7_fitsSights cI cB cZ a_this a_answers a_p1 a_p1_wets a_p1_guests a_p1_guests_cells a_p1_sights a_p1_sights_cells a_p1_remarks a_p1_marks a_p1_past p1_wets p1_guests_cells p1_guests_rows p1_sights_cells p1_sights_rows p1_host p1_rooms p1_night p1_wheels p1_turned) sz rv) 0 0 (va_A (wd_X7_fitsSights cI cB cZ a_this a_answers a_p1 a_p1_wets a_p1_guests a_p1_guests_cells a_p1_sights a_p1_sights_cells a_p1_remarks a_p1_marks a_p1_past p1_wets p1_guests_cells p1_guests_rows p1_sights_cells p1_sights_rows p1_host p1_rooms p1_night p1_wheels p1_turned) sz) := by
  refine s_enter_z (cc := cX7_fitsSights) (nL := 7) (r := rv) (by decide) rfl (Nat.le_of_ble_eq_true rfl) ?_
  intro p e s m args below meth c A Q C0 hend ls hl hS
  have h := hf
  clear hf
  replace hl : lv_has ls 7 [(0, .ref a_this), (1, .ref a_p1), (2, .int p2), (3, .int p3)] := hl
  unfold f_X7_fitsSights at h
  obtain ⟨hx, hb, hml, hown, hts, hK, hA⟩ := id C0
  have inX1 : ∀ w ∈ u_ws RX1 TX1 11, w ∈ wsX7_fitsSights := inX1_X7_fitsSights
  have inX5 : ∀ w ∈ u_ws RX5 TX5 4, w ∈ wsX7_fitsSights := inX5_X7_fitsSights
  refine lv_aload_n hx hb dX7_fitsSights_0 rfl (lv_at hl 1 rfl) ?_
  refine s_getN (C := RX1) (T := TX1) (N := 11) hx hb hts inX1 hown hK hS 1 rfl rfl 2 (by decide) 10 rfl rfl rfl dX7_fitsSights_1 ?_
  refine lv_astore (lv' := [(4, .ref a_p1_sights), (0, .ref a_this), (1, .ref a_p1), (2, .int p2), (3, .int p3)]) hx hb dX7_fitsSights_4 hl (by decide) rfl (fun ls hl => ?_)
  refine lv_iconst (v := (0 : Int32)) hx hb dX7_fitsSights_6 (by decide) ?_
  refine lv_istore (lv' := [(5, .int (0 : Int32)), (4, .ref a_p1_sights), (0, .ref a_this), (1, .ref a_p1), (2, .int p2), (3, .int p3)]) hx hb dX7_fitsSights_7 hl (by decide) rfl (fun ls hl => ?_)
  exact w_X7_fitsSights_b9 C0 hend  s_fuel p2 p3 (0 : Int32) _ _ _ h hS (lv_sub hl [2, 3, 4, 5, 1, 0] rfl)

-- InnTurned$Wits.visitsThatFit(LInnTurned$House;I)I
def wd_X7_visitsThatFit (cI cB cZ : ClassId) (a_this : Nat) (a_answers : Nat) (a_p1 : Nat) (a_p1_wets : Nat) (a_p1_guests : Nat) (a_p1_guests_cells : Nat) (a_p1_sights : Nat) (a_p1_sights_cells : Nat) (a_p1_remarks : Nat) (a_p1_marks : Nat) (a_p1_past : Nat)  (p1_wets : (Nat → Int32)) (p1_guests_cells : (Nat → Int32)) (p1_guests_rows : Int32) (p1_sights_cells : (Nat → Int32)) (p1_sights_rows : Int32) (p1_host : Int32) (p1_rooms : Int32) (p1_night : Int32) (p1_wheels : Int32) (p1_turned : Int32) : va_W := [(a_this, .inr (4, [.ref a_answers])), (a_p1, .inr (0, [.ref a_p1_wets, .ref a_p1_guests, .ref a_p1_sights, .ref a_p1_remarks, .ref a_p1_marks, .ref a_p1_past, .int p1_host, .int p1_rooms, .int p1_night, .int p1_wheels, .int p1_turned])), (a_p1_wets, .inl (cI, 6, .inl p1_wets)), (a_p1_guests, .inr (3, [.int 4, .int 7, .ref a_p1_guests_cells, .int p1_guests_rows])), (a_p1_guests_cells, .inl (cI, 28, .inl p1_guests_cells)), (a_p1_sights, .inr (3, [.int 4, .int 5, .ref a_p1_sights_cells, .int p1_sights_rows])), (a_p1_sights_cells, .inl (cI, 20, .inl p1_sights_cells))]
abbrev rm_X7_visitsThatFit : Room := { frames := 4, cells := 0, slots := 0, locals := 101 }
def f_X7_visitsThatFit_b30 (k_b5 : Int32 → Int32 → Int32 → Option (Int32))  (p1_wets : (Nat → Int32)) (p1_guests_cells : (Nat → Int32)) (p1_guests_rows : Int32) (p1_sights_cells : (Nat → Int32)) (p1_sights_rows : Int32) (p1_host : Int32)  (l2 : Int32) (l3 : Int32) (l4 : Int32) : Option (Int32) := k_b5 l2 l3 (l4 + (1 : Int32))
set_option maxHeartbeats 4000000 in
set_option maxRecDepth 100000 in
theorem w_X7_visitsThatFit_b30 {p : Program} {l : Launch} {e : Env} {s : State} {m : MethodId} {args : Array Value} {below : List Frame} {meth : Method} {c : Code} {A : Nat → Prop} {Q : State → Prop} {D : va_G} {cI cB cZ : ClassId} {a_this a_answers a_p1 a_p1_wets a_p1_guests a_p1_guests_cells a_p1_sights a_p1_sights_cells a_p1_remarks a_p1_marks a_p1_past : Nat} {p1_wets : (Nat → Int32)} {p1_guests_cells : (Nat → Int32)} {p1_guests_rows : Int32} {p1_sights_cells : (Nat → Int32)} {p1_sights_rows : Int32} {p1_host : Int32} {p1_rooms : Int32} {p1_night : Int32} {p1_wheels : Int32} {p1_turned : Int32} (C0 : Cx p s m args c cX7_visitsThatFit 5 RX7 wsX7_visitsThatFit D (s_tys cI cB cZ) A) {rv : Int32} (hend : ∀ (pc : Nat) (H : Heap) (locs : List Loc) (ls : Array Slot), decode cX7_visitsThatFit pc = .ok (.ireturn, 1) → sS D vwCl A s.heap (wd_X7_visitsThatFit cI cB cZ a_this a_answers a_p1 a_p1_wets a_p1_guests a_p1_guests_cells a_p1_sights a_p1_sights_cells a_p1_remarks a_p1_marks a_p1_past p1_wets p1_guests_cells p1_guests_rows p1_sights_cells p1_sights_rows p1_host p1_rooms p1_night p1_wheels p1_turned) H locs → W p l e rm_X7_visitsThatFit s m args below meth c H locs 0 0 Q (F0 m pc ls [.int rv])) (k_b5 : Int32 → Int32 → Int32 → Option (Int32)) (hk_b5 : ∀  (l2 : Int32) (l3 : Int32) (l4 : Int32) (H : Heap) (locs : List Loc) (ls : Array Slot), k_b5 l2 l3 l4 = some rv → sS D vwCl A s.heap (wd_X7_visitsThatFit cI cB cZ a_this a_answers a_p1 a_p1_wets a_p1_guests a_p1_guests_cells a_p1_sights a_p1_sights_cells a_p1_remarks a_p1_marks a_p1_past p1_wets p1_guests_cells p1_guests_rows p1_sights_cells p1_sights_rows p1_host p1_rooms p1_night p1_wheels p1_turned) H locs → lv_has ls 5 [(0, .ref a_this), (1, .ref a_p1), (2, .int l2), (3, .int l3), (4, .int l4)] → W p l e rm_X7_visitsThatFit s m args below meth c H locs 0 0 Q (F0 m 5 ls [])) : ∀  (l2 : Int32) (l3 : Int32) (l4 : Int32) (H : Heap) (locs : List Loc) (ls : Array Slot), f_X7_visitsThatFit_b30 k_b5 p1_wets p1_guests_cells p1_guests_rows p1_sights_cells p1_sights_rows p1_host l2 l3 l4 = some rv → sS D vwCl A s.heap (wd_X7_visitsThatFit cI cB cZ a_this a_answers a_p1 a_p1_wets a_p1_guests a_p1_guests_cells a_p1_sights a_p1_sights_cells a_p1_remarks a_p1_marks a_p1_past p1_wets p1_guests_cells p1_guests_rows p1_sights_cells p1_sights_rows p1_host p1_rooms p1_night p1_wheels p1_turned) H locs → lv_has ls 5 [(0, .ref a_this), (1, .ref a_p1), (2, .int l2), (3, .int l3), (4, .int l4)] → W p l e rm_X7_visitsThatFit s m args below meth c H locs 0 0 Q (F0 m 30 ls []) := by
  obtain ⟨hx, hb, hml, hown, hts, hK, hA⟩ := id C0
  intro l2 l3 l4 H locs ls h hS hl
  unfold f_X7_visitsThatFit_b30 at h
  refine lv_iinc (v := (l4 + (1 : Int32))) (lv' := [(4, .int (l4 + (1 : Int32))), (0, .ref a_this), (1, .ref a_p1), (2, .int l2), (3, .int l3)]) hx hb dX7_visitsThatFit_30 hl (k := 4) rfl rfl (by decide) rfl (fun ls hl => ?_)
  refine lv_goto (tgt := 5) hx hb dX7_visitsThatFit_33 (by decide) ?_
  exact hk_b5 l2 l3 (l4 + (1 : Int32)) _ _ _ h hS (lv_sub hl [1, 2, 3, 4, 0] rfl)
def f_X7_visitsThatFit_b5  (p1_wets : (Nat → Int32)) (p1_guests_cells : (Nat → Int32)) (p1_guests_rows : Int32) (p1_sights_cells : (Nat → Int32)) (p1_sights_rows : Int32) (p1_host : Int32) : Nat → Int32 → Int32 → Int32 → Option (Int32)
  | 0, _, _, _ => none
  | fu + 1, l2, l3, l4 => (if (30 : Int32) < l4 then some (l3) else ((f_X7_fitsSights p1_wets p1_guests_cells p1_guests_rows p1_sights_cells p1_sights_rows p1_host l2 l4).bind fun q2 => (if q2 = 0 then f_X7_visitsThatFit_b30 (f_X7_visitsThatFit_b5 p1_wets p1_guests_cells p1_guests_rows p1_sights_cells p1_sights_rows p1_host fu) p1_wets p1_guests_cells p1_guests_rows p1_sights_cells p1_sights_rows p1_host l2 l3 l4 else f_X7_visitsThatFit_b30 (f_X7_visitsThatFit_b5 p1_wets p1_guests_cells p1_guests_rows p1_sights_cells p1_sights_rows p1_host fu) p1_wets p1_guests_cells p1_guests_rows p1_sights_cells p1_sights_rows p1_host l2 (l3 ||| ((1 : Int32) <<< (l4 &&& 31))) l4)))
set_option maxHeartbeats 4000000 in
set_option maxRecDepth 100000 in
theorem w_X7_visitsThatFit_b5 {p : Program} {l : Launch} {e : Env} {s : State} {m : MethodId} {args : Array Value} {below : List Frame} {meth : Method} {c : Code} {A : Nat → Prop} {Q : State → Prop} {D : va_G} {cI cB cZ : ClassId} {a_this a_answers a_p1 a_p1_wets a_p1_guests a_p1_guests_cells a_p1_sights a_p1_sights_cells a_p1_remarks a_p1_marks a_p1_past : Nat} {p1_wets : (Nat → Int32)} {p1_guests_cells : (Nat → Int32)} {p1_guests_rows : Int32} {p1_sights_cells : (Nat → Int32)} {p1_sights_rows : Int32} {p1_host : Int32} {p1_rooms : Int32} {p1_night : Int32} {p1_wheels : Int32} {p1_turned : Int32} (C0 : Cx p s m args c cX7_visitsThatFit 5 RX7 wsX7_visitsThatFit D (s_tys cI cB cZ) A) {rv : Int32} (hend : ∀ (pc : Nat) (H : Heap) (locs : List Loc) (ls : Array Slot), decode cX7_visitsThatFit pc = .ok (.ireturn, 1) → sS D vwCl A s.heap (wd_X7_visitsThatFit cI cB cZ a_this a_answers a_p1 a_p1_wets a_p1_guests a_p1_guests_cells a_p1_sights a_p1_sights_cells a_p1_remarks a_p1_marks a_p1_past p1_wets p1_guests_cells p1_guests_rows p1_sights_cells p1_sights_rows p1_host p1_rooms p1_night p1_wheels p1_turned) H locs → W p l e rm_X7_visitsThatFit s m args below meth c H locs 0 0 Q (F0 m pc ls [.int rv])) : ∀ (fu : Nat)  (l2 : Int32) (l3 : Int32) (l4 : Int32) (H : Heap) (locs : List Loc) (ls : Array Slot), f_X7_visitsThatFit_b5 p1_wets p1_guests_cells p1_guests_rows p1_sights_cells p1_sights_rows p1_host fu l2 l3 l4 = some rv → sS D vwCl A s.heap (wd_X7_visitsThatFit cI cB cZ a_this a_answers a_p1 a_p1_wets a_p1_guests a_p1_guests_cells a_p1_sights a_p1_sights_cells a_p1_remarks a_p1_marks a_p1_past p1_wets p1_guests_cells p1_guests_rows p1_sights_cells p1_sights_rows p1_host p1_rooms p1_night p1_wheels p1_turned) H locs → lv_has ls 5 [(0, .ref a_this), (1, .ref a_p1), (2, .int l2), (3, .int l3), (4, .int l4)] → W p l e rm_X7_visitsThatFit s m args below meth c H locs 0 0 Q (F0 m 5 ls []) := by
  obtain ⟨hx, hb, hml, hown, hts, hK, hA⟩ := id C0
  intro fu
  induction fu with
  | zero => intro l2 l3 l4 H locs ls h; cases h
  | succ fu ih =>
    intro l2 l3 l4 H locs ls h hS hl
    rw [f_X7_visitsThatFit_b5] at h
    refine lv_iload hx hb dX7_visitsThatFit_5 (lv_at hl 4 rfl) ?_
    refine lv_bipush (v := (30 : Int32)) hx hb dX7_visitsThatFit_7 (by decide) ?_
    refine lv_icmp_gt (tgt := 36) hx hb dX7_visitsThatFit_9 (by decide) (fun c1 => ?_) (fun c1 => ?_)
    · replace h := s_yes c1 h
      refine lv_iload_n hx hb dX7_visitsThatFit_36 rfl (lv_at hl 3 rfl) ?_
      obtain rfl := Option.some.inj h
      exact hend _ _ _ _ dX7_visitsThatFit_37 hS
    replace h := s_no c1 h
    refine lv_aload_n hx hb dX7_visitsThatFit_12 rfl (lv_at hl 0 rfl) ?_
    refine lv_aload_n hx hb dX7_visitsThatFit_13 rfl (lv_at hl 1 rfl) ?_
    refine lv_iload_n hx hb dX7_visitsThatFit_14 rfl (lv_at hl 2 rfl) ?_
    refine lv_iload hx hb dX7_visitsThatFit_15 (lv_at hl 4 rfl) ?_
    obtain ⟨q2, hq2, h⟩ := s_bind h
    refine u_calliV (r := q2) (As := [.ref a_p1, .int l2, .int l4]) (rest := []) (wc := (wd_X7_fitsSights cI cB cZ a_this a_answers a_p1 a_p1_wets a_p1_guests a_p1_guests_cells a_p1_sights a_p1_sights_cells a_p1_remarks a_p1_marks a_p1_past p1_wets p1_guests_cells p1_guests_rows p1_sights_cells p1_sights_rows p1_host p1_rooms p1_night p1_wheels p1_turned)) hx hb hml hown hts hK hA hl hS (c_X7_fitsSights l D cI cB cZ a_this a_answers a_p1 a_p1_wets a_p1_guests a_p1_guests_cells a_p1_sights a_p1_sights_cells a_p1_remarks a_p1_marks a_p1_past p1_wets p1_guests_cells p1_guests_rows p1_sights_cells p1_sights_rows p1_host p1_rooms p1_night p1_wheels p1_turned l2 l4 _ _ hq2) (cwV 3 hts gX7_visitsThatFit_X7_fitsSights rfl rfl rfl (by decide +kernel) ⟨Nat.le_of_ble_eq_true rfl, Nat.le_of_ble_eq_true rfl⟩) 0 rfl rfl [0, 1, 2, 3, 4, 5, 6] rfl rfl rfl rfl (Nat.le_of_ble_eq_true rfl) dX7_visitsThatFit_17 (fun H locs hS => ?_)
    refine lv_if_eq (tgt := 30) hx hb dX7_visitsThatFit_20 (by decide) (fun c3 => ?_) (fun c3 => ?_)
    · replace h := s_yes c3 h
      exact w_X7_visitsThatFit_b30 C0 hend (f_X7_visitsThatFit_b5 p1_wets p1_guests_cells p1_guests_rows p1_sights_cells p1_sights_rows p1_host fu) ih l2 l3 l4 _ _ _ h hS (lv_sub hl [0, 1, 2, 3, 4] rfl)
    replace h := s_no c3 h
    refine lv_iload_n hx hb dX7_visitsThatFit_23 rfl (lv_at hl 3 rfl) ?_
    refine lv_iconst (v := (1 : Int32)) hx hb dX7_visitsThatFit_24 (by decide) ?_
    refine lv_iload hx hb dX7_visitsThatFit_25 (lv_at hl 4 rfl) ?_
    refine lv_ishl hx hb dX7_visitsThatFit_27 ?_
    refine lv_ior hx hb dX7_visitsThatFit_28 ?_
    refine lv_istore_n (lv' := [(3, .int (l3 ||| ((1 : Int32) <<< (l4 &&& 31)))), (0, .ref a_this), (1, .ref a_p1), (2, .int l2), (4, .int l4)]) hx hb dX7_visitsThatFit_29 rfl hl (by decide) rfl (fun ls hl => ?_)
    exact w_X7_visitsThatFit_b30 C0 hend (f_X7_visitsThatFit_b5 p1_wets p1_guests_cells p1_guests_rows p1_sights_cells p1_sights_rows p1_host fu) ih l2 (l3 ||| ((1 : Int32) <<< (l4 &&& 31))) l4 _ _ _ h hS (lv_sub hl [1, 2, 3, 0, 4] rfl)
def f_X7_visitsThatFit  (p1_wets : (Nat → Int32)) (p1_guests_cells : (Nat → Int32)) (p1_guests_rows : Int32) (p1_sights_cells : (Nat → Int32)) (p1_sights_rows : Int32) (p1_host : Int32)  (p2 : Int32) : Option (Int32) := f_X7_visitsThatFit_b5  p1_wets p1_guests_cells p1_guests_rows p1_sights_cells p1_sights_rows p1_host s_fuel p2 (0 : Int32) (0 : Int32)
set_option maxHeartbeats 4000000 in
set_option maxRecDepth 100000 in
theorem c_X7_visitsThatFit (l : Launch) (D : va_G) (cI cB cZ : ClassId) (a_this : Nat) (a_answers : Nat) (a_p1 : Nat) (a_p1_wets : Nat) (a_p1_guests : Nat) (a_p1_guests_cells : Nat) (a_p1_sights : Nat) (a_p1_sights_cells : Nat) (a_p1_remarks : Nat) (a_p1_marks : Nat) (a_p1_past : Nat) (p1_wets : (Nat → Int32)) (p1_guests_cells : (Nat → Int32)) (p1_guests_rows : Int32) (p1_sights_cells : (Nat → Int32)) (p1_sights_rows : Int32) (p1_host : Int32) (p1_rooms : Int32) (p1_night : Int32) (p1_wheels : Int32) (p1_turned : Int32) (p2 : Int32) (rv : Int32) (sz : Nat) (hf : f_X7_visitsThatFit p1_wets p1_guests_cells p1_guests_rows p1_sights_cells p1_sights_rows p1_host p2 = some rv) : Met l yX7_visitsThatFit wsX7_visitsThatFit rm_X7_visitsThatFit (sPc D vwCl (s_tys cI cB cZ) [.ref a_this, .ref a_p1, .int p2] (wd_X7_visitsThatFit cI cB cZ a_this a_answers a_p1 a_p1_wets a_p1_guests a_p1_guests_cells a_p1_sights a_p1_sights_cells a_p1_remarks a_p1_marks a_p1_past p1_wets p1_guests_cells p1_guests_rows p1_sights_cells p1_sights_rows p1_host p1_rooms p1_night p1_wheels p1_turned) sz) (sQi D vwCl (wd_X7_visitsThatFit cI cB cZ a_this a_answers a_p1 a_p1_wets a_p1_guests a_p1_guests_cells a_p1_sights a_p1_sights_cells a_p1_remarks a_p1_marks a_p1_past p1_wets p1_guests_cells p1_guests_rows p1_sights_cells p1_sights_rows p1_host p1_rooms p1_night p1_wheels p1_turned) (wd_X7_visitsThatFit cI cB cZ a_this a_answers a_p1 a_p1_wets a_p1_guests a_p1_guests_cells a_p1_sights a_p1_sights_cells a_p1_remarks a_p1_marks a_p1_past p1_wets p1_guests_cells p1_guests_rows p1_sights_cells p1_sights_rows p1_host p1_rooms p1_night p1_wheels p1_turned) sz rv) 0 0 (va_A (wd_X7_visitsThatFit cI cB cZ a_this a_answers a_p1 a_p1_wets a_p1_guests a_p1_guests_cells a_p1_sights a_p1_sights_cells a_p1_remarks a_p1_marks a_p1_past p1_wets p1_guests_cells p1_guests_rows p1_sights_cells p1_sights_rows p1_host p1_rooms p1_night p1_wheels p1_turned) sz) := by
  refine s_enter_n (cc := cX7_visitsThatFit) (nL := 5) (r := rv) (by decide) rfl (Nat.le_of_ble_eq_true rfl) ?_
  intro p e s m args below meth c A Q C0 hend ls hl hS
  have h := hf
  clear hf
  replace hl : lv_has ls 5 [(0, .ref a_this), (1, .ref a_p1), (2, .int p2)] := hl
  unfold f_X7_visitsThatFit at h
  obtain ⟨hx, hb, hml, hown, hts, hK, hA⟩ := id C0
  refine lv_iconst (v := (0 : Int32)) hx hb dX7_visitsThatFit_0 (by decide) ?_
  refine lv_istore_n (lv' := [(3, .int (0 : Int32)), (0, .ref a_this), (1, .ref a_p1), (2, .int p2)]) hx hb dX7_visitsThatFit_1 rfl hl (by decide) rfl (fun ls hl => ?_)
  refine lv_iconst (v := (0 : Int32)) hx hb dX7_visitsThatFit_2 (by decide) ?_
  refine lv_istore (lv' := [(4, .int (0 : Int32)), (3, .int (0 : Int32)), (0, .ref a_this), (1, .ref a_p1), (2, .int p2)]) hx hb dX7_visitsThatFit_3 hl (by decide) rfl (fun ls hl => ?_)
  exact w_X7_visitsThatFit_b5 C0 hend  s_fuel p2 (0 : Int32) (0 : Int32) _ _ _ h hS (lv_sub hl [2, 3, 4, 1, 0] rfl)

-- InnTurned$Wits.least(I)I
abbrev rm_X7_least : Room := { frames := 0, cells := 0, slots := 0, locals := 0 }
def f_X7_least_b2   : Nat → Int32 → Int32 → Option (Int32)
  | 0, _, _ => none
  | fu + 1, l0, l1 => (if (30 : Int32) < l1 then some ((-1 : Int32)) else (if ((l0 >>> (l1 &&& 31)) &&& (1 : Int32)) = (1 : Int32) then some (l1) else (f_X7_least_b2  fu) l0 (l1 + (1 : Int32))))
set_option maxHeartbeats 4000000 in
set_option maxRecDepth 100000 in
theorem w_X7_least_b2 {p : Program} {l : Launch} {e : Env} {s : State} {m : MethodId} {args : Array Value} {below : List Frame} {meth : Method} {c : Code} {A : Nat → Prop} {Q : State → Prop} {D : va_G} {cI cB cZ : ClassId} (C0 : Cx p s m args c cX7_least 2 RX7 wsX7_least D (s_tys cI cB cZ) A) {rv : Int32} (hend : ∀ (pc : Nat) (H : Heap) (locs : List Loc) (ls : Array Slot), decode cX7_least pc = .ok (.ireturn, 1) → sS D vwCl A s.heap ([] : va_W) H locs → W p l e rm_X7_least s m args below meth c H locs 0 0 Q (F0 m pc ls [.int rv])) : ∀ (fu : Nat)  (l0 : Int32) (l1 : Int32) (H : Heap) (locs : List Loc) (ls : Array Slot), f_X7_least_b2  fu l0 l1 = some rv → sS D vwCl A s.heap ([] : va_W) H locs → lv_has ls 2 [(0, .int l0), (1, .int l1)] → W p l e rm_X7_least s m args below meth c H locs 0 0 Q (F0 m 2 ls []) := by
  obtain ⟨hx, hb, hml, hown, hts, hK, hA⟩ := id C0
  intro fu
  induction fu with
  | zero => intro l0 l1 H locs ls h; cases h
  | succ fu ih =>
    intro l0 l1 H locs ls h hS hl
    rw [f_X7_least_b2] at h
    refine lv_iload_n hx hb dX7_least_2 rfl (lv_at hl 1 rfl) ?_
    refine lv_bipush (v := (30 : Int32)) hx hb dX7_least_3 (by decide) ?_
    refine lv_icmp_gt (tgt := 25) hx hb dX7_least_5 (by decide) (fun c1 => ?_) (fun c1 => ?_)
    · replace h := s_yes c1 h
      refine lv_iconst (v := (-1 : Int32)) hx hb dX7_least_25 (by decide) ?_
      obtain rfl := Option.some.inj h
      exact hend _ _ _ _ dX7_least_26 hS
    replace h := s_no c1 h
    refine lv_iload_n hx hb dX7_least_8 rfl (lv_at hl 0 rfl) ?_
    refine lv_iload_n hx hb dX7_least_9 rfl (lv_at hl 1 rfl) ?_
    refine lv_ishr hx hb dX7_least_10 ?_
    refine lv_iconst (v := (1 : Int32)) hx hb dX7_least_11 (by decide) ?_
    refine lv_iand hx hb dX7_least_12 ?_
    refine lv_iconst (v := (1 : Int32)) hx hb dX7_least_13 (by decide) ?_
    refine lv_icmp_ne (tgt := 19) hx hb dX7_least_14 (by decide) (fun c2 => ?_) (fun c2 => ?_)
    · replace h := s_no c2 h
      refine lv_iinc (v := (l1 + (1 : Int32))) (lv' := [(1, .int (l1 + (1 : Int32))), (0, .int l0)]) hx hb dX7_least_19 hl (k := 1) rfl rfl (by decide) rfl (fun ls hl => ?_)
      refine lv_goto (tgt := 2) hx hb dX7_least_22 (by decide) ?_
      exact ih l0 (l1 + (1 : Int32)) _ _ _ h hS (lv_sub hl [1, 0] rfl)
    replace h := s_yes c2 h
    refine lv_iload_n hx hb dX7_least_17 rfl (lv_at hl 1 rfl) ?_
    obtain rfl := Option.some.inj h
    exact hend _ _ _ _ dX7_least_18 hS
def f_X7_least    (p1 : Int32) : Option (Int32) := f_X7_least_b2   s_fuel p1 (0 : Int32)
set_option maxHeartbeats 4000000 in
set_option maxRecDepth 100000 in
theorem c_X7_least (l : Launch) (D : va_G) (cI cB cZ : ClassId) (p1 : Int32) (rv : Int32) (sz : Nat) (hf : f_X7_least p1 = some rv) : Met l yX7_least wsX7_least rm_X7_least (sPc D vwCl (s_tys cI cB cZ) [.int p1] ([] : va_W) sz) (sQi D vwCl ([] : va_W) ([] : va_W) sz rv) 0 0 (va_A ([] : va_W) sz) := by
  refine s_enter_n (cc := cX7_least) (nL := 2) (r := rv) (by decide) rfl (Nat.le_of_ble_eq_true rfl) ?_
  intro p e s m args below meth c A Q C0 hend ls hl hS
  have h := hf
  clear hf
  replace hl : lv_has ls 2 [(0, .int p1)] := hl
  unfold f_X7_least at h
  obtain ⟨hx, hb, hml, hown, hts, hK, hA⟩ := id C0
  refine lv_iconst (v := (0 : Int32)) hx hb dX7_least_0 (by decide) ?_
  refine lv_istore_n (lv' := [(1, .int (0 : Int32)), (0, .int p1)]) hx hb dX7_least_1 rfl hl (by decide) rfl (fun ls hl => ?_)
  exact w_X7_least_b2 C0 hend  s_fuel p1 (0 : Int32) _ _ _ h hS (lv_sub hl [1, 0] rfl)

-- InnTurned$Wits.greatest(I)I
abbrev rm_X7_greatest : Room := { frames := 0, cells := 0, slots := 0, locals := 0 }
def f_X7_greatest_b3   : Nat → Int32 → Int32 → Option (Int32)
  | 0, _, _ => none
  | fu + 1, l0, l1 => (if l1 < 0 then some ((-1 : Int32)) else (if ((l0 >>> (l1 &&& 31)) &&& (1 : Int32)) = (1 : Int32) then some (l1) else (f_X7_greatest_b3  fu) l0 (l1 + (-1 : Int32))))
set_option maxHeartbeats 4000000 in
set_option maxRecDepth 100000 in
theorem w_X7_greatest_b3 {p : Program} {l : Launch} {e : Env} {s : State} {m : MethodId} {args : Array Value} {below : List Frame} {meth : Method} {c : Code} {A : Nat → Prop} {Q : State → Prop} {D : va_G} {cI cB cZ : ClassId} (C0 : Cx p s m args c cX7_greatest 2 RX7 wsX7_greatest D (s_tys cI cB cZ) A) {rv : Int32} (hend : ∀ (pc : Nat) (H : Heap) (locs : List Loc) (ls : Array Slot), decode cX7_greatest pc = .ok (.ireturn, 1) → sS D vwCl A s.heap ([] : va_W) H locs → W p l e rm_X7_greatest s m args below meth c H locs 0 0 Q (F0 m pc ls [.int rv])) : ∀ (fu : Nat)  (l0 : Int32) (l1 : Int32) (H : Heap) (locs : List Loc) (ls : Array Slot), f_X7_greatest_b3  fu l0 l1 = some rv → sS D vwCl A s.heap ([] : va_W) H locs → lv_has ls 2 [(0, .int l0), (1, .int l1)] → W p l e rm_X7_greatest s m args below meth c H locs 0 0 Q (F0 m 3 ls []) := by
  obtain ⟨hx, hb, hml, hown, hts, hK, hA⟩ := id C0
  intro fu
  induction fu with
  | zero => intro l0 l1 H locs ls h; cases h
  | succ fu ih =>
    intro l0 l1 H locs ls h hS hl
    rw [f_X7_greatest_b3] at h
    refine lv_iload_n hx hb dX7_greatest_3 rfl (lv_at hl 1 rfl) ?_
    refine lv_if_lt (tgt := 24) hx hb dX7_greatest_4 (by decide) (fun c1 => ?_) (fun c1 => ?_)
    · replace h := s_yes c1 h
      refine lv_iconst (v := (-1 : Int32)) hx hb dX7_greatest_24 (by decide) ?_
      obtain rfl := Option.some.inj h
      exact hend _ _ _ _ dX7_greatest_25 hS
    replace h := s_no c1 h
    refine lv_iload_n hx hb dX7_greatest_7 rfl (lv_at hl 0 rfl) ?_
    refine lv_iload_n hx hb dX7_greatest_8 rfl (lv_at hl 1 rfl) ?_
    refine lv_ishr hx hb dX7_greatest_9 ?_
    refine lv_iconst (v := (1 : Int32)) hx hb dX7_greatest_10 (by decide) ?_
    refine lv_iand hx hb dX7_greatest_11 ?_
    refine lv_iconst (v := (1 : Int32)) hx hb dX7_greatest_12 (by decide) ?_
    refine lv_icmp_ne (tgt := 18) hx hb dX7_greatest_13 (by decide) (fun c2 => ?_) (fun c2 => ?_)
    · replace h := s_no c2 h
      refine lv_iinc (v := (l1 + (-1 : Int32))) (lv' := [(1, .int (l1 + (-1 : Int32))), (0, .int l0)]) hx hb dX7_greatest_18 hl (k := 1) rfl rfl (by decide) rfl (fun ls hl => ?_)
      refine lv_goto (tgt := 3) hx hb dX7_greatest_21 (by decide) ?_
      exact ih l0 (l1 + (-1 : Int32)) _ _ _ h hS (lv_sub hl [1, 0] rfl)
    replace h := s_yes c2 h
    refine lv_iload_n hx hb dX7_greatest_16 rfl (lv_at hl 1 rfl) ?_
    obtain rfl := Option.some.inj h
    exact hend _ _ _ _ dX7_greatest_17 hS
def f_X7_greatest    (p1 : Int32) : Option (Int32) := f_X7_greatest_b3   s_fuel p1 (30 : Int32)
set_option maxHeartbeats 4000000 in
set_option maxRecDepth 100000 in
theorem c_X7_greatest (l : Launch) (D : va_G) (cI cB cZ : ClassId) (p1 : Int32) (rv : Int32) (sz : Nat) (hf : f_X7_greatest p1 = some rv) : Met l yX7_greatest wsX7_greatest rm_X7_greatest (sPc D vwCl (s_tys cI cB cZ) [.int p1] ([] : va_W) sz) (sQi D vwCl ([] : va_W) ([] : va_W) sz rv) 0 0 (va_A ([] : va_W) sz) := by
  refine s_enter_n (cc := cX7_greatest) (nL := 2) (r := rv) (by decide) rfl (Nat.le_of_ble_eq_true rfl) ?_
  intro p e s m args below meth c A Q C0 hend ls hl hS
  have h := hf
  clear hf
  replace hl : lv_has ls 2 [(0, .int p1)] := hl
  unfold f_X7_greatest at h
  obtain ⟨hx, hb, hml, hown, hts, hK, hA⟩ := id C0
  refine lv_bipush (v := (30 : Int32)) hx hb dX7_greatest_0 (by decide) ?_
  refine lv_istore_n (lv' := [(1, .int (30 : Int32)), (0, .int p1)]) hx hb dX7_greatest_2 rfl hl (by decide) rfl (fun ls hl => ?_)
  exact w_X7_greatest_b3 C0 hend  s_fuel p1 (30 : Int32) _ _ _ h hS (lv_sub hl [1, 0] rfl)

-- InnTurned$Wits.howManyLetIn(LInnTurned$House;IIII)I
def wd_X7_howManyLetIn (cI cB cZ : ClassId) (a_this : Nat) (a_answers : Nat) (a_p1 : Nat) (a_p1_wets : Nat) (a_p1_guests : Nat) (a_p1_guests_cells : Nat) (a_p1_sights : Nat) (a_p1_remarks : Nat) (a_p1_marks : Nat) (a_p1_past : Nat)  (p1_wets : (Nat → Int32)) (p1_guests_cells : (Nat → Int32)) (p1_guests_rows : Int32) (p1_host : Int32) (p1_rooms : Int32) (p1_night : Int32) (p1_wheels : Int32) (p1_turned : Int32) : va_W := [(a_this, .inr (4, [.ref a_answers])), (a_p1, .inr (0, [.ref a_p1_wets, .ref a_p1_guests, .ref a_p1_sights, .ref a_p1_remarks, .ref a_p1_marks, .ref a_p1_past, .int p1_host, .int p1_rooms, .int p1_night, .int p1_wheels, .int p1_turned])), (a_p1_wets, .inl (cI, 6, .inl p1_wets)), (a_p1_guests, .inr (3, [.int 4, .int 7, .ref a_p1_guests_cells, .int p1_guests_rows])), (a_p1_guests_cells, .inl (cI, 28, .inl p1_guests_cells))]
abbrev rm_X7_howManyLetIn : Room := { frames := 3, cells := 0, slots := 0, locals := 75 }
def f_X7_howManyLetIn_b41 (k_b6 : Int32 → Int32 → Int32 → Int32 → Int32 → Int32 → Option (Int32))  (p1_wets : (Nat → Int32)) (p1_guests_cells : (Nat → Int32)) (p1_guests_rows : Int32) (p1_host : Int32)  (l2 : Int32) (l3 : Int32) (l4 : Int32) (l5 : Int32) (l6 : Int32) (l7 : Int32) : Option (Int32) := k_b6 l2 l3 l4 l5 l6 (l7 + (1 : Int32))
set_option maxHeartbeats 4000000 in
set_option maxRecDepth 100000 in
theorem w_X7_howManyLetIn_b41 {p : Program} {l : Launch} {e : Env} {s : State} {m : MethodId} {args : Array Value} {below : List Frame} {meth : Method} {c : Code} {A : Nat → Prop} {Q : State → Prop} {D : va_G} {cI cB cZ : ClassId} {a_this a_answers a_p1 a_p1_wets a_p1_guests a_p1_guests_cells a_p1_sights a_p1_remarks a_p1_marks a_p1_past : Nat} {p1_wets : (Nat → Int32)} {p1_guests_cells : (Nat → Int32)} {p1_guests_rows : Int32} {p1_host : Int32} {p1_rooms : Int32} {p1_night : Int32} {p1_wheels : Int32} {p1_turned : Int32} (C0 : Cx p s m args c cX7_howManyLetIn 8 RX7 wsX7_howManyLetIn D (s_tys cI cB cZ) A) {rv : Int32} (hend : ∀ (pc : Nat) (H : Heap) (locs : List Loc) (ls : Array Slot), decode cX7_howManyLetIn pc = .ok (.ireturn, 1) → sS D vwCl A s.heap (wd_X7_howManyLetIn cI cB cZ a_this a_answers a_p1 a_p1_wets a_p1_guests a_p1_guests_cells a_p1_sights a_p1_remarks a_p1_marks a_p1_past p1_wets p1_guests_cells p1_guests_rows p1_host p1_rooms p1_night p1_wheels p1_turned) H locs → W p l e rm_X7_howManyLetIn s m args below meth c H locs 0 0 Q (F0 m pc ls [.int rv])) (k_b6 : Int32 → Int32 → Int32 → Int32 → Int32 → Int32 → Option (Int32)) (hk_b6 : ∀  (l2 : Int32) (l3 : Int32) (l4 : Int32) (l5 : Int32) (l6 : Int32) (l7 : Int32) (H : Heap) (locs : List Loc) (ls : Array Slot), k_b6 l2 l3 l4 l5 l6 l7 = some rv → sS D vwCl A s.heap (wd_X7_howManyLetIn cI cB cZ a_this a_answers a_p1 a_p1_wets a_p1_guests a_p1_guests_cells a_p1_sights a_p1_remarks a_p1_marks a_p1_past p1_wets p1_guests_cells p1_guests_rows p1_host p1_rooms p1_night p1_wheels p1_turned) H locs → lv_has ls 8 [(0, .ref a_this), (1, .ref a_p1), (2, .int l2), (3, .int l3), (4, .int l4), (5, .int l5), (6, .int l6), (7, .int l7)] → W p l e rm_X7_howManyLetIn s m args below meth c H locs 0 0 Q (F0 m 6 ls [])) : ∀  (l2 : Int32) (l3 : Int32) (l4 : Int32) (l5 : Int32) (l6 : Int32) (l7 : Int32) (H : Heap) (locs : List Loc) (ls : Array Slot), f_X7_howManyLetIn_b41 k_b6 p1_wets p1_guests_cells p1_guests_rows p1_host l2 l3 l4 l5 l6 l7 = some rv → sS D vwCl A s.heap (wd_X7_howManyLetIn cI cB cZ a_this a_answers a_p1 a_p1_wets a_p1_guests a_p1_guests_cells a_p1_sights a_p1_remarks a_p1_marks a_p1_past p1_wets p1_guests_cells p1_guests_rows p1_host p1_rooms p1_night p1_wheels p1_turned) H locs → lv_has ls 8 [(0, .ref a_this), (1, .ref a_p1), (2, .int l2), (3, .int l3), (4, .int l4), (5, .int l5), (6, .int l6), (7, .int l7)] → W p l e rm_X7_howManyLetIn s m args below meth c H locs 0 0 Q (F0 m 41 ls []) := by
  obtain ⟨hx, hb, hml, hown, hts, hK, hA⟩ := id C0
  intro l2 l3 l4 l5 l6 l7 H locs ls h hS hl
  unfold f_X7_howManyLetIn_b41 at h
  refine lv_iinc (v := (l7 + (1 : Int32))) (lv' := [(7, .int (l7 + (1 : Int32))), (0, .ref a_this), (1, .ref a_p1), (2, .int l2), (3, .int l3), (4, .int l4), (5, .int l5), (6, .int l6)]) hx hb dX7_howManyLetIn_41 hl (k := 7) rfl rfl (by decide) rfl (fun ls hl => ?_)
  refine lv_goto (tgt := 6) hx hb dX7_howManyLetIn_44 (by decide) ?_
  exact hk_b6 l2 l3 l4 l5 l6 (l7 + (1 : Int32)) _ _ _ h hS (lv_sub hl [1, 2, 3, 4, 5, 6, 7, 0] rfl)
def f_X7_howManyLetIn_b6  (p1_wets : (Nat → Int32)) (p1_guests_cells : (Nat → Int32)) (p1_guests_rows : Int32) (p1_host : Int32) : Nat → Int32 → Int32 → Int32 → Int32 → Int32 → Int32 → Option (Int32)
  | 0, _, _, _, _, _, _ => none
  | fu + 1, l2, l3, l4, l5, l6, l7 => (if (30 : Int32) < l7 then some (l6) else (if ((l5 >>> (l7 &&& 31)) &&& (1 : Int32)) = (1 : Int32) then ((f_X7_letIn p1_wets p1_guests_cells p1_guests_rows p1_host l2 l3 l7 l4).bind fun q3 => (if q3 = 0 then f_X7_howManyLetIn_b41 (f_X7_howManyLetIn_b6 p1_wets p1_guests_cells p1_guests_rows p1_host fu) p1_wets p1_guests_cells p1_guests_rows p1_host l2 l3 l4 l5 l6 l7 else f_X7_howManyLetIn_b41 (f_X7_howManyLetIn_b6 p1_wets p1_guests_cells p1_guests_rows p1_host fu) p1_wets p1_guests_cells p1_guests_rows p1_host l2 l3 l4 l5 (l6 + (1 : Int32)) l7)) else f_X7_howManyLetIn_b41 (f_X7_howManyLetIn_b6 p1_wets p1_guests_cells p1_guests_rows p1_host fu) p1_wets p1_guests_cells p1_guests_rows p1_host l2 l3 l4 l5 l6 l7))
set_option maxHeartbeats 4000000 in
set_option maxRecDepth 100000 in
theorem w_X7_howManyLetIn_b6 {p : Program} {l : Launch} {e : Env} {s : State} {m : MethodId} {args : Array Value} {below : List Frame} {meth : Method} {c : Code} {A : Nat → Prop} {Q : State → Prop} {D : va_G} {cI cB cZ : ClassId} {a_this a_answers a_p1 a_p1_wets a_p1_guests a_p1_guests_cells a_p1_sights a_p1_remarks a_p1_marks a_p1_past : Nat} {p1_wets : (Nat → Int32)} {p1_guests_cells : (Nat → Int32)} {p1_guests_rows : Int32} {p1_host : Int32} {p1_rooms : Int32} {p1_night : Int32} {p1_wheels : Int32} {p1_turned : Int32} (C0 : Cx p s m args c cX7_howManyLetIn 8 RX7 wsX7_howManyLetIn D (s_tys cI cB cZ) A) {rv : Int32} (hend : ∀ (pc : Nat) (H : Heap) (locs : List Loc) (ls : Array Slot), decode cX7_howManyLetIn pc = .ok (.ireturn, 1) → sS D vwCl A s.heap (wd_X7_howManyLetIn cI cB cZ a_this a_answers a_p1 a_p1_wets a_p1_guests a_p1_guests_cells a_p1_sights a_p1_remarks a_p1_marks a_p1_past p1_wets p1_guests_cells p1_guests_rows p1_host p1_rooms p1_night p1_wheels p1_turned) H locs → W p l e rm_X7_howManyLetIn s m args below meth c H locs 0 0 Q (F0 m pc ls [.int rv])) : ∀ (fu : Nat)  (l2 : Int32) (l3 : Int32) (l4 : Int32) (l5 : Int32) (l6 : Int32) (l7 : Int32) (H : Heap) (locs : List Loc) (ls : Array Slot), f_X7_howManyLetIn_b6 p1_wets p1_guests_cells p1_guests_rows p1_host fu l2 l3 l4 l5 l6 l7 = some rv → sS D vwCl A s.heap (wd_X7_howManyLetIn cI cB cZ a_this a_answers a_p1 a_p1_wets a_p1_guests a_p1_guests_cells a_p1_sights a_p1_remarks a_p1_marks a_p1_past p1_wets p1_guests_cells p1_guests_rows p1_host p1_rooms p1_night p1_wheels p1_turned) H locs → lv_has ls 8 [(0, .ref a_this), (1, .ref a_p1), (2, .int l2), (3, .int l3), (4, .int l4), (5, .int l5), (6, .int l6), (7, .int l7)] → W p l e rm_X7_howManyLetIn s m args below meth c H locs 0 0 Q (F0 m 6 ls []) := by
  obtain ⟨hx, hb, hml, hown, hts, hK, hA⟩ := id C0
  intro fu
  induction fu with
  | zero => intro l2 l3 l4 l5 l6 l7 H locs ls h; cases h
  | succ fu ih =>
    intro l2 l3 l4 l5 l6 l7 H locs ls h hS hl
    rw [f_X7_howManyLetIn_b6] at h
    refine lv_iload hx hb dX7_howManyLetIn_6 (lv_at hl 7 rfl) ?_
    refine lv_bipush (v := (30 : Int32)) hx hb dX7_howManyLetIn_8 (by decide) ?_
    refine lv_icmp_gt (tgt := 47) hx hb dX7_howManyLetIn_10 (by decide) (fun c1 => ?_) (fun c1 => ?_)
    · replace h := s_yes c1 h
      refine lv_iload hx hb dX7_howManyLetIn_47 (lv_at hl 6 rfl) ?_
      obtain rfl := Option.some.inj h
      exact hend _ _ _ _ dX7_howManyLetIn_49 hS
    replace h := s_no c1 h
    refine lv_iload hx hb dX7_howManyLetIn_13 (lv_at hl 5 rfl) ?_
    refine lv_iload hx hb dX7_howManyLetIn_15 (lv_at hl 7 rfl) ?_
    refine lv_ishr hx hb dX7_howManyLetIn_17 ?_
    refine lv_iconst (v := (1 : Int32)) hx hb dX7_howManyLetIn_18 (by decide) ?_
    refine lv_iand hx hb dX7_howManyLetIn_19 ?_
    refine lv_iconst (v := (1 : Int32)) hx hb dX7_howManyLetIn_20 (by decide) ?_
    refine lv_icmp_ne (tgt := 41) hx hb dX7_howManyLetIn_21 (by decide) (fun c2 => ?_) (fun c2 => ?_)
    · replace h := s_no c2 h
      exact w_X7_howManyLetIn_b41 C0 hend (f_X7_howManyLetIn_b6 p1_wets p1_guests_cells p1_guests_rows p1_host fu) ih l2 l3 l4 l5 l6 l7 _ _ _ h hS (lv_sub hl [0, 1, 2, 3, 4, 5, 6, 7] rfl)
    replace h := s_yes c2 h
    refine lv_aload_n hx hb dX7_howManyLetIn_24 rfl (lv_at hl 0 rfl) ?_
    refine lv_aload_n hx hb dX7_howManyLetIn_25 rfl (lv_at hl 1 rfl) ?_
    refine lv_iload_n hx hb dX7_howManyLetIn_26 rfl (lv_at hl 2 rfl) ?_
    refine lv_iload_n hx hb dX7_howManyLetIn_27 rfl (lv_at hl 3 rfl) ?_
    refine lv_iload hx hb dX7_howManyLetIn_28 (lv_at hl 7 rfl) ?_
    refine lv_iload hx hb dX7_howManyLetIn_30 (lv_at hl 4 rfl) ?_
    obtain ⟨q3, hq3, h⟩ := s_bind h
    refine u_calliV (r := q3) (As := [.ref a_p1, .int l2, .int l3, .int l7, .int l4]) (rest := []) (wc := (wd_X7_letIn cI cB cZ a_this a_p1 a_p1_wets a_p1_guests a_p1_guests_cells a_p1_sights a_p1_remarks a_p1_marks a_p1_past p1_wets p1_guests_cells p1_guests_rows p1_host p1_rooms p1_night p1_wheels p1_turned)) hx hb hml hown hts hK hA hl hS (c_X7_letIn l D cI cB cZ a_this a_p1 a_p1_wets a_p1_guests a_p1_guests_cells a_p1_sights a_p1_remarks a_p1_marks a_p1_past p1_wets p1_guests_cells p1_guests_rows p1_host p1_rooms p1_night p1_wheels p1_turned l2 l3 l7 l4 _ _ hq3) (cwV 5 hts gX7_howManyLetIn_X7_letIn rfl rfl rfl (by decide +kernel) ⟨Nat.le_of_ble_eq_true rfl, Nat.le_of_ble_eq_true rfl⟩) 0 rfl rfl [1, 2, 3, 4] rfl rfl rfl rfl (Nat.le_of_ble_eq_true rfl) dX7_howManyLetIn_32 (fun H locs hS => ?_)
    refine lv_if_eq (tgt := 41) hx hb dX7_howManyLetIn_35 (by decide) (fun c4 => ?_) (fun c4 => ?_)
    · replace h := s_yes c4 h
      exact w_X7_howManyLetIn_b41 C0 hend (f_X7_howManyLetIn_b6 p1_wets p1_guests_cells p1_guests_rows p1_host fu) ih l2 l3 l4 l5 l6 l7 _ _ _ h hS (lv_sub hl [0, 1, 2, 3, 4, 5, 6, 7] rfl)
    replace h := s_no c4 h
    refine lv_iinc (v := (l6 + (1 : Int32))) (lv' := [(6, .int (l6 + (1 : Int32))), (0, .ref a_this), (1, .ref a_p1), (2, .int l2), (3, .int l3), (4, .int l4), (5, .int l5), (7, .int l7)]) hx hb dX7_howManyLetIn_38 hl (k := 6) rfl rfl (by decide) rfl (fun ls hl => ?_)
    exact w_X7_howManyLetIn_b41 C0 hend (f_X7_howManyLetIn_b6 p1_wets p1_guests_cells p1_guests_rows p1_host fu) ih l2 l3 l4 l5 (l6 + (1 : Int32)) l7 _ _ _ h hS (lv_sub hl [1, 2, 3, 4, 5, 6, 0, 7] rfl)
def f_X7_howManyLetIn  (p1_wets : (Nat → Int32)) (p1_guests_cells : (Nat → Int32)) (p1_guests_rows : Int32) (p1_host : Int32)  (p2 : Int32) (p3 : Int32) (p4 : Int32) (p5 : Int32) : Option (Int32) := f_X7_howManyLetIn_b6  p1_wets p1_guests_cells p1_guests_rows p1_host s_fuel p2 p3 p4 p5 (0 : Int32) (0 : Int32)
set_option maxHeartbeats 4000000 in
set_option maxRecDepth 100000 in
theorem c_X7_howManyLetIn (l : Launch) (D : va_G) (cI cB cZ : ClassId) (a_this : Nat) (a_answers : Nat) (a_p1 : Nat) (a_p1_wets : Nat) (a_p1_guests : Nat) (a_p1_guests_cells : Nat) (a_p1_sights : Nat) (a_p1_remarks : Nat) (a_p1_marks : Nat) (a_p1_past : Nat) (p1_wets : (Nat → Int32)) (p1_guests_cells : (Nat → Int32)) (p1_guests_rows : Int32) (p1_host : Int32) (p1_rooms : Int32) (p1_night : Int32) (p1_wheels : Int32) (p1_turned : Int32) (p2 : Int32) (p3 : Int32) (p4 : Int32) (p5 : Int32) (rv : Int32) (sz : Nat) (hf : f_X7_howManyLetIn p1_wets p1_guests_cells p1_guests_rows p1_host p2 p3 p4 p5 = some rv) : Met l yX7_howManyLetIn wsX7_howManyLetIn rm_X7_howManyLetIn (sPc D vwCl (s_tys cI cB cZ) [.ref a_this, .ref a_p1, .int p2, .int p3, .int p4, .int p5] (wd_X7_howManyLetIn cI cB cZ a_this a_answers a_p1 a_p1_wets a_p1_guests a_p1_guests_cells a_p1_sights a_p1_remarks a_p1_marks a_p1_past p1_wets p1_guests_cells p1_guests_rows p1_host p1_rooms p1_night p1_wheels p1_turned) sz) (sQi D vwCl (wd_X7_howManyLetIn cI cB cZ a_this a_answers a_p1 a_p1_wets a_p1_guests a_p1_guests_cells a_p1_sights a_p1_remarks a_p1_marks a_p1_past p1_wets p1_guests_cells p1_guests_rows p1_host p1_rooms p1_night p1_wheels p1_turned) (wd_X7_howManyLetIn cI cB cZ a_this a_answers a_p1 a_p1_wets a_p1_guests a_p1_guests_cells a_p1_sights a_p1_remarks a_p1_marks a_p1_past p1_wets p1_guests_cells p1_guests_rows p1_host p1_rooms p1_night p1_wheels p1_turned) sz rv) 0 0 (va_A (wd_X7_howManyLetIn cI cB cZ a_this a_answers a_p1 a_p1_wets a_p1_guests a_p1_guests_cells a_p1_sights a_p1_remarks a_p1_marks a_p1_past p1_wets p1_guests_cells p1_guests_rows p1_host p1_rooms p1_night p1_wheels p1_turned) sz) := by
  refine s_enter_n (cc := cX7_howManyLetIn) (nL := 8) (r := rv) (by decide) rfl (Nat.le_of_ble_eq_true rfl) ?_
  intro p e s m args below meth c A Q C0 hend ls hl hS
  have h := hf
  clear hf
  replace hl : lv_has ls 8 [(0, .ref a_this), (1, .ref a_p1), (2, .int p2), (3, .int p3), (4, .int p4), (5, .int p5)] := hl
  unfold f_X7_howManyLetIn at h
  obtain ⟨hx, hb, hml, hown, hts, hK, hA⟩ := id C0
  refine lv_iconst (v := (0 : Int32)) hx hb dX7_howManyLetIn_0 (by decide) ?_
  refine lv_istore (lv' := [(6, .int (0 : Int32)), (0, .ref a_this), (1, .ref a_p1), (2, .int p2), (3, .int p3), (4, .int p4), (5, .int p5)]) hx hb dX7_howManyLetIn_1 hl (by decide) rfl (fun ls hl => ?_)
  refine lv_iconst (v := (0 : Int32)) hx hb dX7_howManyLetIn_3 (by decide) ?_
  refine lv_istore (lv' := [(7, .int (0 : Int32)), (6, .int (0 : Int32)), (0, .ref a_this), (1, .ref a_p1), (2, .int p2), (3, .int p3), (4, .int p4), (5, .int p5)]) hx hb dX7_howManyLetIn_4 hl (by decide) rfl (fun ls hl => ?_)
  exact w_X7_howManyLetIn_b6 C0 hend  s_fuel p2 p3 p4 p5 (0 : Int32) (0 : Int32) _ _ _ h hS (lv_sub hl [2, 3, 4, 5, 6, 7, 1, 0] rfl)

-- InnTurned$Wits.bestNight(LInnTurned$House;I)I
def wd_X7_bestNight (cI cB cZ : ClassId) (a_this : Nat) (a_answers : Nat) (a_p1 : Nat) (a_p1_wets : Nat) (a_p1_guests : Nat) (a_p1_guests_cells : Nat) (a_p1_sights : Nat) (a_p1_sights_cells : Nat) (a_p1_remarks : Nat) (a_p1_marks : Nat) (a_p1_past : Nat)  (p1_wets : (Nat → Int32)) (p1_guests_cells : (Nat → Int32)) (p1_guests_rows : Int32) (p1_sights_cells : (Nat → Int32)) (p1_sights_rows : Int32) (p1_host : Int32) (p1_rooms : Int32) (p1_night : Int32) (p1_wheels : Int32) (p1_turned : Int32) : va_W := [(a_this, .inr (4, [.ref a_answers])), (a_p1, .inr (0, [.ref a_p1_wets, .ref a_p1_guests, .ref a_p1_sights, .ref a_p1_remarks, .ref a_p1_marks, .ref a_p1_past, .int p1_host, .int p1_rooms, .int p1_night, .int p1_wheels, .int p1_turned])), (a_p1_wets, .inl (cI, 6, .inl p1_wets)), (a_p1_guests, .inr (3, [.int 4, .int 7, .ref a_p1_guests_cells, .int p1_guests_rows])), (a_p1_guests_cells, .inl (cI, 28, .inl p1_guests_cells)), (a_p1_sights, .inr (3, [.int 4, .int 5, .ref a_p1_sights_cells, .int p1_sights_rows])), (a_p1_sights_cells, .inl (cI, 20, .inl p1_sights_cells))]
abbrev rm_X7_bestNight : Room := { frames := 5, cells := 0, slots := 0, locals := 125 }
def f_X7_bestNight_b95 (k_b32 : Int32 → Int32 → Int32 → Int32 → Int32 → Int32 → Option (Int32)) (k_b42 : Int32 → Int32 → Int32 → Int32 → Int32 → Int32 → Int32 → Option (Int32))  (p1_wets : (Nat → Int32)) (p1_guests_cells : (Nat → Int32)) (p1_guests_rows : Int32) (p1_sights_cells : (Nat → Int32)) (p1_sights_rows : Int32) (p1_host : Int32)  (l2 : Int32) (l3 : Int32) (l4 : Int32) (l5 : Int32) (l6 : Int32) (l7 : Int32) (l8 : Int32) : Option (Int32) := k_b42 l2 l3 l4 l5 l6 l7 (l8 + (1 : Int32))
set_option maxHeartbeats 4000000 in
set_option maxRecDepth 100000 in
theorem w_X7_bestNight_b95 {p : Program} {l : Launch} {e : Env} {s : State} {m : MethodId} {args : Array Value} {below : List Frame} {meth : Method} {c : Code} {A : Nat → Prop} {Q : State → Prop} {D : va_G} {cI cB cZ : ClassId} {a_this a_answers a_p1 a_p1_wets a_p1_guests a_p1_guests_cells a_p1_sights a_p1_sights_cells a_p1_remarks a_p1_marks a_p1_past : Nat} {p1_wets : (Nat → Int32)} {p1_guests_cells : (Nat → Int32)} {p1_guests_rows : Int32} {p1_sights_cells : (Nat → Int32)} {p1_sights_rows : Int32} {p1_host : Int32} {p1_rooms : Int32} {p1_night : Int32} {p1_wheels : Int32} {p1_turned : Int32} (C0 : Cx p s m args c cX7_bestNight 11 RX7 wsX7_bestNight D (s_tys cI cB cZ) A) {rv : Int32} (hend : ∀ (pc : Nat) (H : Heap) (locs : List Loc) (ls : Array Slot), decode cX7_bestNight pc = .ok (.ireturn, 1) → sS D vwCl A s.heap (wd_X7_bestNight cI cB cZ a_this a_answers a_p1 a_p1_wets a_p1_guests a_p1_guests_cells a_p1_sights a_p1_sights_cells a_p1_remarks a_p1_marks a_p1_past p1_wets p1_guests_cells p1_guests_rows p1_sights_cells p1_sights_rows p1_host p1_rooms p1_night p1_wheels p1_turned) H locs → W p l e rm_X7_bestNight s m args below meth c H locs 0 0 Q (F0 m pc ls [.int rv])) (k_b32 : Int32 → Int32 → Int32 → Int32 → Int32 → Int32 → Option (Int32)) (hk_b32 : ∀  (l2 : Int32) (l3 : Int32) (l4 : Int32) (l5 : Int32) (l6 : Int32) (l7 : Int32) (H : Heap) (locs : List Loc) (ls : Array Slot), k_b32 l2 l3 l4 l5 l6 l7 = some rv → sS D vwCl A s.heap (wd_X7_bestNight cI cB cZ a_this a_answers a_p1 a_p1_wets a_p1_guests a_p1_guests_cells a_p1_sights a_p1_sights_cells a_p1_remarks a_p1_marks a_p1_past p1_wets p1_guests_cells p1_guests_rows p1_sights_cells p1_sights_rows p1_host p1_rooms p1_night p1_wheels p1_turned) H locs → lv_has ls 11 [(0, .ref a_this), (1, .ref a_p1), (2, .int l2), (3, .int l3), (4, .int l4), (5, .int l5), (6, .int l6), (7, .int l7)] → W p l e rm_X7_bestNight s m args below meth c H locs 0 0 Q (F0 m 32 ls [])) (k_b42 : Int32 → Int32 → Int32 → Int32 → Int32 → Int32 → Int32 → Option (Int32)) (hk_b42 : ∀  (l2 : Int32) (l3 : Int32) (l4 : Int32) (l5 : Int32) (l6 : Int32) (l7 : Int32) (l8 : Int32) (H : Heap) (locs : List Loc) (ls : Array Slot), k_b42 l2 l3 l4 l5 l6 l7 l8 = some rv → sS D vwCl A s.heap (wd_X7_bestNight cI cB cZ a_this a_answers a_p1 a_p1_wets a_p1_guests a_p1_guests_cells a_p1_sights a_p1_sights_cells a_p1_remarks a_p1_marks a_p1_past p1_wets p1_guests_cells p1_guests_rows p1_sights_cells p1_sights_rows p1_host p1_rooms p1_night p1_wheels p1_turned) H locs → lv_has ls 11 [(0, .ref a_this), (1, .ref a_p1), (2, .int l2), (3, .int l3), (4, .int l4), (5, .int l5), (6, .int l6), (7, .int l7), (8, .int l8)] → W p l e rm_X7_bestNight s m args below meth c H locs 0 0 Q (F0 m 42 ls [])) : ∀  (l2 : Int32) (l3 : Int32) (l4 : Int32) (l5 : Int32) (l6 : Int32) (l7 : Int32) (l8 : Int32) (H : Heap) (locs : List Loc) (ls : Array Slot), f_X7_bestNight_b95 k_b32 k_b42 p1_wets p1_guests_cells p1_guests_rows p1_sights_cells p1_sights_rows p1_host l2 l3 l4 l5 l6 l7 l8 = some rv → sS D vwCl A s.heap (wd_X7_bestNight cI cB cZ a_this a_answers a_p1 a_p1_wets a_p1_guests a_p1_guests_cells a_p1_sights a_p1_sights_cells a_p1_remarks a_p1_marks a_p1_past p1_wets p1_guests_cells p1_guests_rows p1_sights_cells p1_sights_rows p1_host p1_rooms p1_night p1_wheels p1_turned) H locs → lv_has ls 11 [(0, .ref a_this), (1, .ref a_p1), (2, .int l2), (3, .int l3), (4, .int l4), (5, .int l5), (6, .int l6), (7, .int l7), (8, .int l8)] → W p l e rm_X7_bestNight s m args below meth c H locs 0 0 Q (F0 m 95 ls []) := by
  obtain ⟨hx, hb, hml, hown, hts, hK, hA⟩ := id C0
  intro l2 l3 l4 l5 l6 l7 l8 H locs ls h hS hl
  unfold f_X7_bestNight_b95 at h
  refine lv_iinc (v := (l8 + (1 : Int32))) (lv' := [(8, .int (l8 + (1 : Int32))), (0, .ref a_this), (1, .ref a_p1), (2, .int l2), (3, .int l3), (4, .int l4), (5, .int l5), (6, .int l6), (7, .int l7)]) hx hb dX7_bestNight_95 hl (k := 8) rfl rfl (by decide) rfl (fun ls hl => ?_)
  refine lv_goto (tgt := 42) hx hb dX7_bestNight_98 (by decide) ?_
  exact hk_b42 l2 l3 l4 l5 l6 l7 (l8 + (1 : Int32)) _ _ _ h hS (lv_sub hl [1, 2, 3, 4, 5, 6, 7, 8, 0] rfl)
def f_X7_bestNight_b42 (k_b32 : Int32 → Int32 → Int32 → Int32 → Int32 → Int32 → Option (Int32))  (p1_wets : (Nat → Int32)) (p1_guests_cells : (Nat → Int32)) (p1_guests_rows : Int32) (p1_sights_cells : (Nat → Int32)) (p1_sights_rows : Int32) (p1_host : Int32) : Nat → Int32 → Int32 → Int32 → Int32 → Int32 → Int32 → Int32 → Option (Int32)
  | 0, _, _, _, _, _, _, _ => none
  | fu + 1, l2, l3, l4, l5, l6, l7, l8 => (if (9 : Int32) < l8 then k_b32 l2 l3 l4 l5 l6 (l7 + (1 : Int32)) else ((f_X7_howManyLetIn p1_wets p1_guests_cells p1_guests_rows p1_host l2 l8 l7 l3).bind fun q2 => (if l6 ≤ (if q2 < (l4 - q2) then (l4 - q2) else q2) then f_X7_bestNight_b95 k_b32 (f_X7_bestNight_b42 k_b32 p1_wets p1_guests_cells p1_guests_rows p1_sights_cells p1_sights_rows p1_host fu) p1_wets p1_guests_cells p1_guests_rows p1_sights_cells p1_sights_rows p1_host l2 l3 l4 l5 l6 l7 l8 else f_X7_bestNight_b95 k_b32 (f_X7_bestNight_b42 k_b32 p1_wets p1_guests_cells p1_guests_rows p1_sights_cells p1_sights_rows p1_host fu) p1_wets p1_guests_cells p1_guests_rows p1_sights_cells p1_sights_rows p1_host l2 l3 l4 (((10 : Int32) * l7) + l8) (if q2 < (l4 - q2) then (l4 - q2) else q2) l7 l8)))
set_option maxHeartbeats 4000000 in
set_option maxRecDepth 100000 in
theorem w_X7_bestNight_b42 {p : Program} {l : Launch} {e : Env} {s : State} {m : MethodId} {args : Array Value} {below : List Frame} {meth : Method} {c : Code} {A : Nat → Prop} {Q : State → Prop} {D : va_G} {cI cB cZ : ClassId} {a_this a_answers a_p1 a_p1_wets a_p1_guests a_p1_guests_cells a_p1_sights a_p1_sights_cells a_p1_remarks a_p1_marks a_p1_past : Nat} {p1_wets : (Nat → Int32)} {p1_guests_cells : (Nat → Int32)} {p1_guests_rows : Int32} {p1_sights_cells : (Nat → Int32)} {p1_sights_rows : Int32} {p1_host : Int32} {p1_rooms : Int32} {p1_night : Int32} {p1_wheels : Int32} {p1_turned : Int32} (C0 : Cx p s m args c cX7_bestNight 11 RX7 wsX7_bestNight D (s_tys cI cB cZ) A) {rv : Int32} (hend : ∀ (pc : Nat) (H : Heap) (locs : List Loc) (ls : Array Slot), decode cX7_bestNight pc = .ok (.ireturn, 1) → sS D vwCl A s.heap (wd_X7_bestNight cI cB cZ a_this a_answers a_p1 a_p1_wets a_p1_guests a_p1_guests_cells a_p1_sights a_p1_sights_cells a_p1_remarks a_p1_marks a_p1_past p1_wets p1_guests_cells p1_guests_rows p1_sights_cells p1_sights_rows p1_host p1_rooms p1_night p1_wheels p1_turned) H locs → W p l e rm_X7_bestNight s m args below meth c H locs 0 0 Q (F0 m pc ls [.int rv])) (k_b32 : Int32 → Int32 → Int32 → Int32 → Int32 → Int32 → Option (Int32)) (hk_b32 : ∀  (l2 : Int32) (l3 : Int32) (l4 : Int32) (l5 : Int32) (l6 : Int32) (l7 : Int32) (H : Heap) (locs : List Loc) (ls : Array Slot), k_b32 l2 l3 l4 l5 l6 l7 = some rv → sS D vwCl A s.heap (wd_X7_bestNight cI cB cZ a_this a_answers a_p1 a_p1_wets a_p1_guests a_p1_guests_cells a_p1_sights a_p1_sights_cells a_p1_remarks a_p1_marks a_p1_past p1_wets p1_guests_cells p1_guests_rows p1_sights_cells p1_sights_rows p1_host p1_rooms p1_night p1_wheels p1_turned) H locs → lv_has ls 11 [(0, .ref a_this), (1, .ref a_p1), (2, .int l2), (3, .int l3), (4, .int l4), (5, .int l5), (6, .int l6), (7, .int l7)] → W p l e rm_X7_bestNight s m args below meth c H locs 0 0 Q (F0 m 32 ls [])) : ∀ (fu : Nat)  (l2 : Int32) (l3 : Int32) (l4 : Int32) (l5 : Int32) (l6 : Int32) (l7 : Int32) (l8 : Int32) (H : Heap) (locs : List Loc) (ls : Array Slot), f_X7_bestNight_b42 k_b32 p1_wets p1_guests_cells p1_guests_rows p1_sights_cells p1_sights_rows p1_host fu l2 l3 l4 l5 l6 l7 l8 = some rv → sS D vwCl A s.heap (wd_X7_bestNight cI cB cZ a_this a_answers a_p1 a_p1_wets a_p1_guests a_p1_guests_cells a_p1_sights a_p1_sights_cells a_p1_remarks a_p1_marks a_p1_past p1_wets p1_guests_cells p1_guests_rows p1_sights_cells p1_sights_rows p1_host p1_rooms p1_night p1_wheels p1_turned) H locs → lv_has ls 11 [(0, .ref a_this), (1, .ref a_p1), (2, .int l2), (3, .int l3), (4, .int l4), (5, .int l5), (6, .int l6), (7, .int l7), (8, .int l8)] → W p l e rm_X7_bestNight s m args below meth c H locs 0 0 Q (F0 m 42 ls []) := by
  obtain ⟨hx, hb, hml, hown, hts, hK, hA⟩ := id C0
  intro fu
  induction fu with
  | zero => intro l2 l3 l4 l5 l6 l7 l8 H locs ls h; cases h
  | succ fu ih =>
    intro l2 l3 l4 l5 l6 l7 l8 H locs ls h hS hl
    rw [f_X7_bestNight_b42] at h
    refine lv_iload hx hb dX7_bestNight_42 (lv_at hl 8 rfl) ?_
    refine lv_bipush (v := (9 : Int32)) hx hb dX7_bestNight_44 (by decide) ?_
    refine lv_icmp_gt (tgt := 101) hx hb dX7_bestNight_46 (by decide) (fun c1 => ?_) (fun c1 => ?_)
    · replace h := s_yes c1 h
      refine lv_iinc (v := (l7 + (1 : Int32))) (lv' := [(7, .int (l7 + (1 : Int32))), (0, .ref a_this), (1, .ref a_p1), (2, .int l2), (3, .int l3), (4, .int l4), (5, .int l5), (6, .int l6), (8, .int l8)]) hx hb dX7_bestNight_101 hl (k := 7) rfl rfl (by decide) rfl (fun ls hl => ?_)
      refine lv_goto (tgt := 32) hx hb dX7_bestNight_104 (by decide) ?_
      exact hk_b32 l2 l3 l4 l5 l6 (l7 + (1 : Int32)) _ _ _ h hS (lv_sub hl [1, 2, 3, 4, 5, 6, 7, 0] rfl)
    replace h := s_no c1 h
    refine lv_aload_n hx hb dX7_bestNight_49 rfl (lv_at hl 0 rfl) ?_
    refine lv_aload_n hx hb dX7_bestNight_50 rfl (lv_at hl 1 rfl) ?_
    refine lv_iload_n hx hb dX7_bestNight_51 rfl (lv_at hl 2 rfl) ?_
    refine lv_iload hx hb dX7_bestNight_52 (lv_at hl 8 rfl) ?_
    refine lv_iload hx hb dX7_bestNight_54 (lv_at hl 7 rfl) ?_
    refine lv_iload_n hx hb dX7_bestNight_56 rfl (lv_at hl 3 rfl) ?_
    obtain ⟨q2, hq2, h⟩ := s_bind h
    refine u_calliV (r := q2) (As := [.ref a_p1, .int l2, .int l8, .int l7, .int l3]) (rest := []) (wc := (wd_X7_howManyLetIn cI cB cZ a_this a_answers a_p1 a_p1_wets a_p1_guests a_p1_guests_cells a_p1_sights a_p1_remarks a_p1_marks a_p1_past p1_wets p1_guests_cells p1_guests_rows p1_host p1_rooms p1_night p1_wheels p1_turned)) hx hb hml hown hts hK hA hl hS (c_X7_howManyLetIn l D cI cB cZ a_this a_answers a_p1 a_p1_wets a_p1_guests a_p1_guests_cells a_p1_sights a_p1_remarks a_p1_marks a_p1_past p1_wets p1_guests_cells p1_guests_rows p1_host p1_rooms p1_night p1_wheels p1_turned l2 l8 l7 l3 _ _ hq2) (cwV 5 hts gX7_bestNight_X7_howManyLetIn rfl rfl rfl (by decide +kernel) ⟨Nat.le_of_ble_eq_true rfl, Nat.le_of_ble_eq_true rfl⟩) 0 rfl rfl [0, 1, 2, 3, 4] rfl rfl rfl rfl (Nat.le_of_ble_eq_true rfl) dX7_bestNight_57 (fun H locs hS => ?_)
    refine lv_istore (lv' := [(9, .int q2), (0, .ref a_this), (1, .ref a_p1), (2, .int l2), (3, .int l3), (4, .int l4), (5, .int l5), (6, .int l6), (7, .int l7), (8, .int l8)]) hx hb dX7_bestNight_60 hl (by decide) rfl (fun ls hl => ?_)
    refine lv_iload hx hb dX7_bestNight_62 (lv_at hl 0 rfl) ?_
    refine lv_iload hx hb dX7_bestNight_64 (lv_at hl 5 rfl) ?_
    refine lv_iload hx hb dX7_bestNight_66 (lv_at hl 0 rfl) ?_
    refine lv_isub hx hb dX7_bestNight_68 ?_
    refine s_max hx hb hml hl.1 hown (hts (.methodLink RX7 33 Lib.Math.max.name) (List.mem_of_getElem? (i := 1) rfl)) (hts (.static Lib.Math.max.name) (List.mem_of_getElem? (i := 2) rfl)) (hts (.initialized "java/lang/Math") (List.mem_of_getElem? (i := 3) rfl)) (hts (.code Lib.Math.max.name Lib.Math.max.code 2 (some .int)) (List.mem_of_getElem? (i := 4) rfl)) (Nat.le_of_ble_eq_true rfl) (Nat.le_of_ble_eq_true rfl) dX7_bestNight_69 ?_
    refine lv_istore (lv' := [(10, .int (if q2 < (l4 - q2) then (l4 - q2) else q2)), (9, .int q2), (0, .ref a_this), (1, .ref a_p1), (2, .int l2), (3, .int l3), (4, .int l4), (5, .int l5), (6, .int l6), (7, .int l7), (8, .int l8)]) hx hb dX7_bestNight_72 hl (by decide) rfl (fun ls hl => ?_)
    refine lv_iload hx hb dX7_bestNight_74 (lv_at hl 0 rfl) ?_
    refine lv_iload hx hb dX7_bestNight_76 (lv_at hl 8 rfl) ?_
    refine lv_icmp_ge (tgt := 95) hx hb dX7_bestNight_78 (by decide) (fun c3 => ?_) (fun c3 => ?_)
    · replace h := s_yes c3 h
      exact w_X7_bestNight_b95 C0 hend k_b32 hk_b32 (f_X7_bestNight_b42 k_b32 p1_wets p1_guests_cells p1_guests_rows p1_sights_cells p1_sights_rows p1_host fu) ih l2 l3 l4 l5 l6 l7 l8 _ _ _ h hS (lv_sub hl [2, 3, 4, 5, 6, 7, 8, 9, 10] rfl)
    replace h := s_no c3 h
    refine lv_iload hx hb dX7_bestNight_81 (lv_at hl 0 rfl) ?_
    refine lv_istore (lv' := [(6, .int (if q2 < (l4 - q2) then (l4 - q2) else q2)), (10, .int (if q2 < (l4 - q2) then (l4 - q2) else q2)), (9, .int q2), (0, .ref a_this), (1, .ref a_p1), (2, .int l2), (3, .int l3), (4, .int l4), (5, .int l5), (7, .int l7), (8, .int l8)]) hx hb dX7_bestNight_83 hl (by decide) rfl (fun ls hl => ?_)
    refine lv_bipush (v := (10 : Int32)) hx hb dX7_bestNight_85 (by decide) ?_
    refine lv_iload hx hb dX7_bestNight_87 (lv_at hl 9 rfl) ?_
    refine lv_imul hx hb dX7_bestNight_89 ?_
    refine lv_iload hx hb dX7_bestNight_90 (lv_at hl 10 rfl) ?_
    refine lv_iadd hx hb dX7_bestNight_92 ?_
    refine lv_istore (lv' := [(5, .int (((10 : Int32) * l7) + l8)), (6, .int (if q2 < (l4 - q2) then (l4 - q2) else q2)), (10, .int (if q2 < (l4 - q2) then (l4 - q2) else q2)), (9, .int q2), (0, .ref a_this), (1, .ref a_p1), (2, .int l2), (3, .int l3), (4, .int l4), (7, .int l7), (8, .int l8)]) hx hb dX7_bestNight_93 hl (by decide) rfl (fun ls hl => ?_)
    exact w_X7_bestNight_b95 C0 hend k_b32 hk_b32 (f_X7_bestNight_b42 k_b32 p1_wets p1_guests_cells p1_guests_rows p1_sights_cells p1_sights_rows p1_host fu) ih l2 l3 l4 (((10 : Int32) * l7) + l8) (if q2 < (l4 - q2) then (l4 - q2) else q2) l7 l8 _ _ _ h hS (lv_sub hl [4, 5, 6, 7, 8, 0, 1, 9, 10] rfl)
def f_X7_bestNight_b32  (p1_wets : (Nat → Int32)) (p1_guests_cells : (Nat → Int32)) (p1_guests_rows : Int32) (p1_sights_cells : (Nat → Int32)) (p1_sights_rows : Int32) (p1_host : Int32) : Nat → Int32 → Int32 → Int32 → Int32 → Int32 → Int32 → Option (Int32)
  | 0, _, _, _, _, _, _ => none
  | fu + 1, l2, l3, l4, l5, l6, l7 => (if (14 : Int32) ≤ l7 then some (l5) else f_X7_bestNight_b42 (f_X7_bestNight_b32 p1_wets p1_guests_cells p1_guests_rows p1_sights_cells p1_sights_rows p1_host fu) p1_wets p1_guests_cells p1_guests_rows p1_sights_cells p1_sights_rows p1_host s_fuel l2 l3 l4 l5 l6 l7 (0 : Int32))
set_option maxHeartbeats 4000000 in
set_option maxRecDepth 100000 in
theorem w_X7_bestNight_b32 {p : Program} {l : Launch} {e : Env} {s : State} {m : MethodId} {args : Array Value} {below : List Frame} {meth : Method} {c : Code} {A : Nat → Prop} {Q : State → Prop} {D : va_G} {cI cB cZ : ClassId} {a_this a_answers a_p1 a_p1_wets a_p1_guests a_p1_guests_cells a_p1_sights a_p1_sights_cells a_p1_remarks a_p1_marks a_p1_past : Nat} {p1_wets : (Nat → Int32)} {p1_guests_cells : (Nat → Int32)} {p1_guests_rows : Int32} {p1_sights_cells : (Nat → Int32)} {p1_sights_rows : Int32} {p1_host : Int32} {p1_rooms : Int32} {p1_night : Int32} {p1_wheels : Int32} {p1_turned : Int32} (C0 : Cx p s m args c cX7_bestNight 11 RX7 wsX7_bestNight D (s_tys cI cB cZ) A) {rv : Int32} (hend : ∀ (pc : Nat) (H : Heap) (locs : List Loc) (ls : Array Slot), decode cX7_bestNight pc = .ok (.ireturn, 1) → sS D vwCl A s.heap (wd_X7_bestNight cI cB cZ a_this a_answers a_p1 a_p1_wets a_p1_guests a_p1_guests_cells a_p1_sights a_p1_sights_cells a_p1_remarks a_p1_marks a_p1_past p1_wets p1_guests_cells p1_guests_rows p1_sights_cells p1_sights_rows p1_host p1_rooms p1_night p1_wheels p1_turned) H locs → W p l e rm_X7_bestNight s m args below meth c H locs 0 0 Q (F0 m pc ls [.int rv])) : ∀ (fu : Nat)  (l2 : Int32) (l3 : Int32) (l4 : Int32) (l5 : Int32) (l6 : Int32) (l7 : Int32) (H : Heap) (locs : List Loc) (ls : Array Slot), f_X7_bestNight_b32 p1_wets p1_guests_cells p1_guests_rows p1_sights_cells p1_sights_rows p1_host fu l2 l3 l4 l5 l6 l7 = some rv → sS D vwCl A s.heap (wd_X7_bestNight cI cB cZ a_this a_answers a_p1 a_p1_wets a_p1_guests a_p1_guests_cells a_p1_sights a_p1_sights_cells a_p1_remarks a_p1_marks a_p1_past p1_wets p1_guests_cells p1_guests_rows p1_sights_cells p1_sights_rows p1_host p1_rooms p1_night p1_wheels p1_turned) H locs → lv_has ls 11 [(0, .ref a_this), (1, .ref a_p1), (2, .int l2), (3, .int l3), (4, .int l4), (5, .int l5), (6, .int l6), (7, .int l7)] → W p l e rm_X7_bestNight s m args below meth c H locs 0 0 Q (F0 m 32 ls []) := by
  obtain ⟨hx, hb, hml, hown, hts, hK, hA⟩ := id C0
  intro fu
  induction fu with
  | zero => intro l2 l3 l4 l5 l6 l7 H locs ls h; cases h
  | succ fu ih =>
    intro l2 l3 l4 l5 l6 l7 H locs ls h hS hl
    rw [f_X7_bestNight_b32] at h
    refine lv_iload hx hb dX7_bestNight_32 (lv_at hl 7 rfl) ?_
    refine lv_bipush (v := (14 : Int32)) hx hb dX7_bestNight_34 (by decide) ?_
    refine lv_icmp_ge (tgt := 107) hx hb dX7_bestNight_36 (by decide) (fun c4 => ?_) (fun c4 => ?_)
    · replace h := s_yes c4 h
      refine lv_iload hx hb dX7_bestNight_107 (lv_at hl 5 rfl) ?_
      obtain rfl := Option.some.inj h
      exact hend _ _ _ _ dX7_bestNight_109 hS
    replace h := s_no c4 h
    refine lv_iconst (v := (0 : Int32)) hx hb dX7_bestNight_39 (by decide) ?_
    refine lv_istore (lv' := [(8, .int (0 : Int32)), (0, .ref a_this), (1, .ref a_p1), (2, .int l2), (3, .int l3), (4, .int l4), (5, .int l5), (6, .int l6), (7, .int l7)]) hx hb dX7_bestNight_40 hl (by decide) rfl (fun ls hl => ?_)
    exact w_X7_bestNight_b42 C0 hend (f_X7_bestNight_b32 p1_wets p1_guests_cells p1_guests_rows p1_sights_cells p1_sights_rows p1_host fu) ih s_fuel l2 l3 l4 l5 l6 l7 (0 : Int32) _ _ _ h hS (lv_sub hl [1, 2, 3, 4, 5, 6, 7, 8, 0] rfl)
def f_X7_bestNight  (p1_wets : (Nat → Int32)) (p1_guests_cells : (Nat → Int32)) (p1_guests_rows : Int32) (p1_sights_cells : (Nat → Int32)) (p1_sights_rows : Int32) (p1_host : Int32)  (p2 : Int32) : Option (Int32) := ((f_X7_visitsThatFit p1_wets p1_guests_cells p1_guests_rows p1_sights_cells p1_sights_rows p1_host p2).bind fun q5 => ((f_J6_bitCount_0f7a4 q5).bind fun q6 => (if q6 = 0 then some ((-1 : Int32)) else f_X7_bestNight_b32  p1_wets p1_guests_cells p1_guests_rows p1_sights_cells p1_sights_rows p1_host s_fuel p2 q5 q6 (-1 : Int32) (q6 + (1 : Int32)) (0 : Int32))))
set_option maxHeartbeats 4000000 in
set_option maxRecDepth 100000 in
theorem c_X7_bestNight (l : Launch) (D : va_G) (cI cB cZ : ClassId) (a_this : Nat) (a_answers : Nat) (a_p1 : Nat) (a_p1_wets : Nat) (a_p1_guests : Nat) (a_p1_guests_cells : Nat) (a_p1_sights : Nat) (a_p1_sights_cells : Nat) (a_p1_remarks : Nat) (a_p1_marks : Nat) (a_p1_past : Nat) (p1_wets : (Nat → Int32)) (p1_guests_cells : (Nat → Int32)) (p1_guests_rows : Int32) (p1_sights_cells : (Nat → Int32)) (p1_sights_rows : Int32) (p1_host : Int32) (p1_rooms : Int32) (p1_night : Int32) (p1_wheels : Int32) (p1_turned : Int32) (p2 : Int32) (rv : Int32) (sz : Nat) (hf : f_X7_bestNight p1_wets p1_guests_cells p1_guests_rows p1_sights_cells p1_sights_rows p1_host p2 = some rv) : Met l yX7_bestNight wsX7_bestNight rm_X7_bestNight (sPc D vwCl (s_tys cI cB cZ) [.ref a_this, .ref a_p1, .int p2] (wd_X7_bestNight cI cB cZ a_this a_answers a_p1 a_p1_wets a_p1_guests a_p1_guests_cells a_p1_sights a_p1_sights_cells a_p1_remarks a_p1_marks a_p1_past p1_wets p1_guests_cells p1_guests_rows p1_sights_cells p1_sights_rows p1_host p1_rooms p1_night p1_wheels p1_turned) sz) (sQi D vwCl (wd_X7_bestNight cI cB cZ a_this a_answers a_p1 a_p1_wets a_p1_guests a_p1_guests_cells a_p1_sights a_p1_sights_cells a_p1_remarks a_p1_marks a_p1_past p1_wets p1_guests_cells p1_guests_rows p1_sights_cells p1_sights_rows p1_host p1_rooms p1_night p1_wheels p1_turned) (wd_X7_bestNight cI cB cZ a_this a_answers a_p1 a_p1_wets a_p1_guests a_p1_guests_cells a_p1_sights a_p1_sights_cells a_p1_remarks a_p1_marks a_p1_past p1_wets p1_guests_cells p1_guests_rows p1_sights_cells p1_sights_rows p1_host p1_rooms p1_night p1_wheels p1_turned) sz rv) 0 0 (va_A (wd_X7_bestNight cI cB cZ a_this a_answers a_p1 a_p1_wets a_p1_guests a_p1_guests_cells a_p1_sights a_p1_sights_cells a_p1_remarks a_p1_marks a_p1_past p1_wets p1_guests_cells p1_guests_rows p1_sights_cells p1_sights_rows p1_host p1_rooms p1_night p1_wheels p1_turned) sz) := by
  refine s_enter_n (cc := cX7_bestNight) (nL := 11) (r := rv) (by decide) rfl (Nat.le_of_ble_eq_true rfl) ?_
  intro p e s m args below meth c A Q C0 hend ls hl hS
  have h := hf
  clear hf
  replace hl : lv_has ls 11 [(0, .ref a_this), (1, .ref a_p1), (2, .int p2)] := hl
  unfold f_X7_bestNight at h
  obtain ⟨hx, hb, hml, hown, hts, hK, hA⟩ := id C0
  refine lv_aload_n hx hb dX7_bestNight_0 rfl (lv_at hl 0 rfl) ?_
  refine lv_aload_n hx hb dX7_bestNight_1 rfl (lv_at hl 1 rfl) ?_
  refine lv_iload_n hx hb dX7_bestNight_2 rfl (lv_at hl 2 rfl) ?_
  obtain ⟨q5, hq5, h⟩ := s_bind h
  refine u_calliV (r := q5) (As := [.ref a_p1, .int p2]) (rest := []) (wc := (wd_X7_visitsThatFit cI cB cZ a_this a_answers a_p1 a_p1_wets a_p1_guests a_p1_guests_cells a_p1_sights a_p1_sights_cells a_p1_remarks a_p1_marks a_p1_past p1_wets p1_guests_cells p1_guests_rows p1_sights_cells p1_sights_rows p1_host p1_rooms p1_night p1_wheels p1_turned)) hx hb hml hown hts hK hA hl hS (c_X7_visitsThatFit l D cI cB cZ a_this a_answers a_p1 a_p1_wets a_p1_guests a_p1_guests_cells a_p1_sights a_p1_sights_cells a_p1_remarks a_p1_marks a_p1_past p1_wets p1_guests_cells p1_guests_rows p1_sights_cells p1_sights_rows p1_host p1_rooms p1_night p1_wheels p1_turned p2 _ _ hq5) (cwV 2 hts gX7_bestNight_X7_visitsThatFit rfl rfl rfl (by decide +kernel) ⟨Nat.le_of_ble_eq_true rfl, Nat.le_of_ble_eq_true rfl⟩) 0 rfl rfl [0, 1, 2, 3, 4, 5, 6] rfl rfl rfl rfl (Nat.le_of_ble_eq_true rfl) dX7_bestNight_3 (fun H locs hS => ?_)
  refine lv_istore_n (lv' := [(3, .int q5), (0, .ref a_this), (1, .ref a_p1), (2, .int p2)]) hx hb dX7_bestNight_6 rfl hl (by decide) rfl (fun ls hl => ?_)
  refine lv_iload_n hx hb dX7_bestNight_7 rfl (lv_at hl 0 rfl) ?_
  obtain ⟨q6, hq6, h⟩ := s_bind h
  refine u_calliS (r := q6) (As := [.int q5]) (rest := []) (wc := ([] : va_W)) hx hb hml hown hts hK hA hl hS (c_J6_bitCount_0f7a4 l D cI cB cZ q5 _ _ hq6) (va_cwS 1 hts gX7_bestNight_J6_bitCount_0f7a4 rfl rfl rfl (by decide +kernel) ⟨Nat.le_of_ble_eq_true rfl, Nat.le_of_ble_eq_true rfl⟩) [] rfl rfl rfl rfl (Nat.le_of_ble_eq_true rfl) dX7_bestNight_8 (fun H locs hS => ?_)
  refine lv_istore (lv' := [(4, .int q6), (3, .int q5), (0, .ref a_this), (1, .ref a_p1), (2, .int p2)]) hx hb dX7_bestNight_11 hl (by decide) rfl (fun ls hl => ?_)
  refine lv_iconst (v := (-1 : Int32)) hx hb dX7_bestNight_13 (by decide) ?_
  refine lv_istore (lv' := [(5, .int (-1 : Int32)), (4, .int q6), (3, .int q5), (0, .ref a_this), (1, .ref a_p1), (2, .int p2)]) hx hb dX7_bestNight_14 hl (by decide) rfl (fun ls hl => ?_)
  refine lv_iload hx hb dX7_bestNight_16 (lv_at hl 1 rfl) ?_
  refine lv_iconst (v := (1 : Int32)) hx hb dX7_bestNight_18 (by decide) ?_
  refine lv_iadd hx hb dX7_bestNight_19 ?_
  refine lv_istore (lv' := [(6, .int (q6 + (1 : Int32))), (5, .int (-1 : Int32)), (4, .int q6), (3, .int q5), (0, .ref a_this), (1, .ref a_p1), (2, .int p2)]) hx hb dX7_bestNight_20 hl (by decide) rfl (fun ls hl => ?_)
  refine lv_iload hx hb dX7_bestNight_22 (lv_at hl 2 rfl) ?_
  refine lv_if_ne (tgt := 29) hx hb dX7_bestNight_24 (by decide) (fun c7 => ?_) (fun c7 => ?_)
  · replace h := s_no c7 h
    refine lv_iconst (v := (0 : Int32)) hx hb dX7_bestNight_29 (by decide) ?_
    refine lv_istore (lv' := [(7, .int (0 : Int32)), (6, .int (q6 + (1 : Int32))), (5, .int (-1 : Int32)), (4, .int q6), (3, .int q5), (0, .ref a_this), (1, .ref a_p1), (2, .int p2)]) hx hb dX7_bestNight_30 hl (by decide) rfl (fun ls hl => ?_)
    exact w_X7_bestNight_b32 C0 hend  s_fuel p2 q5 q6 (-1 : Int32) (q6 + (1 : Int32)) (0 : Int32) _ _ _ h hS (lv_sub hl [5, 6, 7, 4, 3, 2, 1, 0] rfl)
  replace h := s_yes c7 h
  refine lv_iconst (v := (-1 : Int32)) hx hb dX7_bestNight_27 (by decide) ?_
  obtain rfl := Option.some.inj h
  exact hend _ _ _ _ dX7_bestNight_28 hS

-- InnTurned$Wits.fitsRemarks(LInnTurned$Table;II)Z
def wd_X7_fitsRemarks (cI cB cZ : ClassId) (a_this : Nat) (a_p1 : Nat) (a_p1_cells : Nat) (n_p1_cells : Nat) (p1_width : Int32) (p1_most : Int32) (p1_cells : (Nat → Int32)) (p1_rows : Int32) : va_W := [(a_p1, .inr (3, [.int p1_width, .int p1_most, .ref a_p1_cells, .int p1_rows])), (a_p1_cells, .inl (cI, n_p1_cells, .inl p1_cells))]
abbrev rm_X7_fitsRemarks : Room := { frames := 1, cells := 0, slots := 0, locals := 26 }
set_option maxRecDepth 20000 in
theorem inX5_X7_fitsRemarks : ∀ w ∈ u_ws RX5 TX5 4, w ∈ wsX7_fitsRemarks := by decide +kernel
def f_X7_fitsRemarks_b75 (k_b3 : Int32 → Int32 → Int32 → Option (Int32)) (n_p1_cells : Nat) (p1_width : Int32) (p1_cells : (Nat → Int32)) (p1_rows : Int32)  (l2 : Int32) (l3 : Int32) (l4 : Int32) : Option (Int32) := k_b3 l2 l3 (l4 + (1 : Int32))
set_option maxHeartbeats 4000000 in
set_option maxRecDepth 100000 in
theorem w_X7_fitsRemarks_b75 {p : Program} {l : Launch} {e : Env} {s : State} {m : MethodId} {args : Array Value} {below : List Frame} {meth : Method} {c : Code} {A : Nat → Prop} {Q : State → Prop} {D : va_G} {cI cB cZ : ClassId} {a_this a_p1 a_p1_cells : Nat} {n_p1_cells : Nat} {p1_width : Int32} {p1_most : Int32} {p1_cells : (Nat → Int32)} {p1_rows : Int32} (C0 : Cx p s m args c cX7_fitsRemarks 8 RX7 wsX7_fitsRemarks D (s_tys cI cB cZ) A) {rv : Int32} (hend : ∀ (pc : Nat) (H : Heap) (locs : List Loc) (ls : Array Slot), decode cX7_fitsRemarks pc = .ok (.ireturn, 1) → (rv = 0 ∨ rv = 1) → sS D vwCl A s.heap (wd_X7_fitsRemarks cI cB cZ a_this a_p1 a_p1_cells n_p1_cells p1_width p1_most p1_cells p1_rows) H locs → W p l e rm_X7_fitsRemarks s m args below meth c H locs 0 0 Q (F0 m pc ls [.int rv])) (k_b3 : Int32 → Int32 → Int32 → Option (Int32)) (hk_b3 : ∀  (l2 : Int32) (l3 : Int32) (l4 : Int32) (H : Heap) (locs : List Loc) (ls : Array Slot), k_b3 l2 l3 l4 = some rv → sS D vwCl A s.heap (wd_X7_fitsRemarks cI cB cZ a_this a_p1 a_p1_cells n_p1_cells p1_width p1_most p1_cells p1_rows) H locs → lv_has ls 8 [(1, .ref a_p1), (2, .int l2), (3, .int l3), (4, .int l4)] → W p l e rm_X7_fitsRemarks s m args below meth c H locs 0 0 Q (F0 m 3 ls [])) : ∀  (l2 : Int32) (l3 : Int32) (l4 : Int32) (H : Heap) (locs : List Loc) (ls : Array Slot), f_X7_fitsRemarks_b75 k_b3 n_p1_cells p1_width p1_cells p1_rows l2 l3 l4 = some rv → sS D vwCl A s.heap (wd_X7_fitsRemarks cI cB cZ a_this a_p1 a_p1_cells n_p1_cells p1_width p1_most p1_cells p1_rows) H locs → lv_has ls 8 [(1, .ref a_p1), (2, .int l2), (3, .int l3), (4, .int l4)] → W p l e rm_X7_fitsRemarks s m args below meth c H locs 0 0 Q (F0 m 75 ls []) := by
  obtain ⟨hx, hb, hml, hown, hts, hK, hA⟩ := id C0
  have inX5 : ∀ w ∈ u_ws RX5 TX5 4, w ∈ wsX7_fitsRemarks := inX5_X7_fitsRemarks
  intro l2 l3 l4 H locs ls h hS hl
  unfold f_X7_fitsRemarks_b75 at h
  refine lv_iinc (v := (l4 + (1 : Int32))) (lv' := [(4, .int (l4 + (1 : Int32))), (1, .ref a_p1), (2, .int l2), (3, .int l3)]) hx hb dX7_fitsRemarks_75 hl (k := 3) rfl rfl (by decide) rfl (fun ls hl => ?_)
  refine lv_goto (tgt := 3) hx hb dX7_fitsRemarks_78 (by decide) ?_
  exact hk_b3 l2 l3 (l4 + (1 : Int32)) _ _ _ h hS (lv_sub hl [1, 2, 3, 0] rfl)
def f_X7_fitsRemarks_b3 (n_p1_cells : Nat) (p1_width : Int32) (p1_cells : (Nat → Int32)) (p1_rows : Int32) : Nat → Int32 → Int32 → Int32 → Option (Int32)
  | 0, _, _, _ => none
  | fu + 1, l2, l3, l4 => (if p1_rows ≤ l4 then some ((1 : Int32)) else ((f_X5_cell n_p1_cells p1_width p1_cells p1_rows l4 (0 : Int32)).bind fun q2 => (if q2 = l2 then ((f_X5_cell n_p1_cells p1_width p1_cells p1_rows l4 (1 : Int32)).bind fun q4 => ((f_X5_cell n_p1_cells p1_width p1_cells p1_rows l4 (2 : Int32)).bind fun q5 => ((f_X5_cell n_p1_cells p1_width p1_cells p1_rows l4 (3 : Int32)).bind fun q6 => ((f_X2_likely l3 q4 q5 q6).bind fun q7 => ((f_X5_cell n_p1_cells p1_width p1_cells p1_rows l4 (4 : Int32)).bind fun q8 => (if q7 = q8 then f_X7_fitsRemarks_b75 (f_X7_fitsRemarks_b3 n_p1_cells p1_width p1_cells p1_rows fu) n_p1_cells p1_width p1_cells p1_rows l2 l3 l4 else some ((0 : Int32)))))))) else f_X7_fitsRemarks_b75 (f_X7_fitsRemarks_b3 n_p1_cells p1_width p1_cells p1_rows fu) n_p1_cells p1_width p1_cells p1_rows l2 l3 l4)))
set_option maxHeartbeats 4000000 in
set_option maxRecDepth 100000 in
theorem w_X7_fitsRemarks_b3 {p : Program} {l : Launch} {e : Env} {s : State} {m : MethodId} {args : Array Value} {below : List Frame} {meth : Method} {c : Code} {A : Nat → Prop} {Q : State → Prop} {D : va_G} {cI cB cZ : ClassId} {a_this a_p1 a_p1_cells : Nat} {n_p1_cells : Nat} {p1_width : Int32} {p1_most : Int32} {p1_cells : (Nat → Int32)} {p1_rows : Int32} (C0 : Cx p s m args c cX7_fitsRemarks 8 RX7 wsX7_fitsRemarks D (s_tys cI cB cZ) A) {rv : Int32} (hend : ∀ (pc : Nat) (H : Heap) (locs : List Loc) (ls : Array Slot), decode cX7_fitsRemarks pc = .ok (.ireturn, 1) → (rv = 0 ∨ rv = 1) → sS D vwCl A s.heap (wd_X7_fitsRemarks cI cB cZ a_this a_p1 a_p1_cells n_p1_cells p1_width p1_most p1_cells p1_rows) H locs → W p l e rm_X7_fitsRemarks s m args below meth c H locs 0 0 Q (F0 m pc ls [.int rv])) : ∀ (fu : Nat)  (l2 : Int32) (l3 : Int32) (l4 : Int32) (H : Heap) (locs : List Loc) (ls : Array Slot), f_X7_fitsRemarks_b3 n_p1_cells p1_width p1_cells p1_rows fu l2 l3 l4 = some rv → sS D vwCl A s.heap (wd_X7_fitsRemarks cI cB cZ a_this a_p1 a_p1_cells n_p1_cells p1_width p1_most p1_cells p1_rows) H locs → lv_has ls 8 [(1, .ref a_p1), (2, .int l2), (3, .int l3), (4, .int l4)] → W p l e rm_X7_fitsRemarks s m args below meth c H locs 0 0 Q (F0 m 3 ls []) := by
  obtain ⟨hx, hb, hml, hown, hts, hK, hA⟩ := id C0
  have inX5 : ∀ w ∈ u_ws RX5 TX5 4, w ∈ wsX7_fitsRemarks := inX5_X7_fitsRemarks
  intro fu
  induction fu with
  | zero => intro l2 l3 l4 H locs ls h; cases h
  | succ fu ih =>
    intro l2 l3 l4 H locs ls h hS hl
    rw [f_X7_fitsRemarks_b3] at h
    refine lv_iload hx hb dX7_fitsRemarks_3 (lv_at hl 3 rfl) ?_
    refine lv_aload_n hx hb dX7_fitsRemarks_5 rfl (lv_at hl 0 rfl) ?_
    refine s_getN (C := RX5) (T := TX5) (N := 4) hx hb hts inX5 hown hK hS 0 rfl rfl 3 (by decide) 5 rfl rfl rfl dX7_fitsRemarks_6 ?_
    refine lv_icmp_ge (tgt := 81) hx hb dX7_fitsRemarks_9 (by decide) (fun c1 => ?_) (fun c1 => ?_)
    · replace h := s_yes c1 h
      refine lv_iconst (v := (1 : Int32)) hx hb dX7_fitsRemarks_81 (by decide) ?_
      obtain rfl := Option.some.inj h
      exact hend _ _ _ _ dX7_fitsRemarks_82 (Or.inr rfl) hS
    replace h := s_no c1 h
    refine lv_aload_n hx hb dX7_fitsRemarks_12 rfl (lv_at hl 0 rfl) ?_
    refine lv_iload hx hb dX7_fitsRemarks_13 (lv_at hl 3 rfl) ?_
    refine lv_iconst (v := (0 : Int32)) hx hb dX7_fitsRemarks_15 (by decide) ?_
    obtain ⟨q2, hq2, h⟩ := s_bind h
    refine u_calliV (r := q2) (As := [.int l4, .int (0 : Int32)]) (rest := []) (wc := (wd_X5_cell cI cB cZ a_p1 a_p1_cells n_p1_cells p1_width p1_most p1_cells p1_rows)) hx hb hml hown hts hK hA hl hS (c_X5_cell l D cI cB cZ a_p1 a_p1_cells n_p1_cells p1_width p1_most p1_cells p1_rows l4 (0 : Int32) _ _ hq2) (cwV 2 hts gX7_fitsRemarks_X5_cell rfl rfl rfl (by decide +kernel) ⟨Nat.le_of_ble_eq_true rfl, Nat.le_of_ble_eq_true rfl⟩) 0 rfl rfl [0, 1] rfl rfl rfl rfl (Nat.le_of_ble_eq_true rfl) dX7_fitsRemarks_16 (fun H locs hS => ?_)
    refine lv_iload_n hx hb dX7_fitsRemarks_19 rfl (lv_at hl 1 rfl) ?_
    refine lv_icmp_eq (tgt := 26) hx hb dX7_fitsRemarks_20 (by decide) (fun c3 => ?_) (fun c3 => ?_)
    · replace h := s_yes c3 h
      refine lv_aload_n hx hb dX7_fitsRemarks_26 rfl (lv_at hl 0 rfl) ?_
      refine lv_iload hx hb dX7_fitsRemarks_27 (lv_at hl 3 rfl) ?_
      refine lv_iconst (v := (1 : Int32)) hx hb dX7_fitsRemarks_29 (by decide) ?_
      obtain ⟨q4, hq4, h⟩ := s_bind h
      refine u_calliV (r := q4) (As := [.int l4, .int (1 : Int32)]) (rest := []) (wc := (wd_X5_cell cI cB cZ a_p1 a_p1_cells n_p1_cells p1_width p1_most p1_cells p1_rows)) hx hb hml hown hts hK hA hl hS (c_X5_cell l D cI cB cZ a_p1 a_p1_cells n_p1_cells p1_width p1_most p1_cells p1_rows l4 (1 : Int32) _ _ hq4) (cwV 2 hts gX7_fitsRemarks_X5_cell rfl rfl rfl (by decide +kernel) ⟨Nat.le_of_ble_eq_true rfl, Nat.le_of_ble_eq_true rfl⟩) 0 rfl rfl [0, 1] rfl rfl rfl rfl (Nat.le_of_ble_eq_true rfl) dX7_fitsRemarks_30 (fun H locs hS => ?_)
      refine lv_istore (lv' := [(5, .int q4), (1, .ref a_p1), (2, .int l2), (3, .int l3), (4, .int l4)]) hx hb dX7_fitsRemarks_33 hl (by decide) rfl (fun ls hl => ?_)
      refine lv_aload_n hx hb dX7_fitsRemarks_35 rfl (lv_at hl 1 rfl) ?_
      refine lv_iload hx hb dX7_fitsRemarks_36 (lv_at hl 4 rfl) ?_
      refine lv_iconst (v := (2 : Int32)) hx hb dX7_fitsRemarks_38 (by decide) ?_
      obtain ⟨q5, hq5, h⟩ := s_bind h
      refine u_calliV (r := q5) (As := [.int l4, .int (2 : Int32)]) (rest := []) (wc := (wd_X5_cell cI cB cZ a_p1 a_p1_cells n_p1_cells p1_width p1_most p1_cells p1_rows)) hx hb hml hown hts hK hA hl hS (c_X5_cell l D cI cB cZ a_p1 a_p1_cells n_p1_cells p1_width p1_most p1_cells p1_rows l4 (2 : Int32) _ _ hq5) (cwV 2 hts gX7_fitsRemarks_X5_cell rfl rfl rfl (by decide +kernel) ⟨Nat.le_of_ble_eq_true rfl, Nat.le_of_ble_eq_true rfl⟩) 0 rfl rfl [0, 1] rfl rfl rfl rfl (Nat.le_of_ble_eq_true rfl) dX7_fitsRemarks_39 (fun H locs hS => ?_)
      refine lv_istore (lv' := [(6, .int q5), (5, .int q4), (1, .ref a_p1), (2, .int l2), (3, .int l3), (4, .int l4)]) hx hb dX7_fitsRemarks_42 hl (by decide) rfl (fun ls hl => ?_)
      refine lv_aload_n hx hb dX7_fitsRemarks_44 rfl (lv_at hl 2 rfl) ?_
      refine lv_iload hx hb dX7_fitsRemarks_45 (lv_at hl 5 rfl) ?_
      refine lv_iconst (v := (3 : Int32)) hx hb dX7_fitsRemarks_47 (by decide) ?_
      obtain ⟨q6, hq6, h⟩ := s_bind h
      refine u_calliV (r := q6) (As := [.int l4, .int (3 : Int32)]) (rest := []) (wc := (wd_X5_cell cI cB cZ a_p1 a_p1_cells n_p1_cells p1_width p1_most p1_cells p1_rows)) hx hb hml hown hts hK hA hl hS (c_X5_cell l D cI cB cZ a_p1 a_p1_cells n_p1_cells p1_width p1_most p1_cells p1_rows l4 (3 : Int32) _ _ hq6) (cwV 2 hts gX7_fitsRemarks_X5_cell rfl rfl rfl (by decide +kernel) ⟨Nat.le_of_ble_eq_true rfl, Nat.le_of_ble_eq_true rfl⟩) 0 rfl rfl [0, 1] rfl rfl rfl rfl (Nat.le_of_ble_eq_true rfl) dX7_fitsRemarks_48 (fun H locs hS => ?_)
      refine lv_istore (lv' := [(7, .int q6), (6, .int q5), (5, .int q4), (1, .ref a_p1), (2, .int l2), (3, .int l3), (4, .int l4)]) hx hb dX7_fitsRemarks_51 hl (by decide) rfl (fun ls hl => ?_)
      refine lv_iload_n hx hb dX7_fitsRemarks_53 rfl (lv_at hl 5 rfl) ?_
      refine lv_iload hx hb dX7_fitsRemarks_54 (lv_at hl 2 rfl) ?_
      refine lv_iload hx hb dX7_fitsRemarks_56 (lv_at hl 1 rfl) ?_
      refine lv_iload hx hb dX7_fitsRemarks_58 (lv_at hl 0 rfl) ?_
      obtain ⟨q7, hq7, h⟩ := s_bind h
      refine u_calliS (r := q7) (As := [.int l3, .int q4, .int q5, .int q6]) (rest := []) (wc := ([] : va_W)) hx hb hml hown hts hK hA hl hS (c_X2_likely l D cI cB cZ l3 q4 q5 q6 _ _ hq7) (va_cwS 4 hts gX7_fitsRemarks_X2_likely rfl rfl rfl (by decide +kernel) ⟨Nat.le_of_ble_eq_true rfl, Nat.le_of_ble_eq_true rfl⟩) [] rfl rfl rfl rfl (Nat.le_of_ble_eq_true rfl) dX7_fitsRemarks_60 (fun H locs hS => ?_)
      refine lv_aload_n hx hb dX7_fitsRemarks_63 rfl (lv_at hl 3 rfl) ?_
      refine lv_iload hx hb dX7_fitsRemarks_64 (lv_at hl 6 rfl) ?_
      refine lv_iconst (v := (4 : Int32)) hx hb dX7_fitsRemarks_66 (by decide) ?_
      obtain ⟨q8, hq8, h⟩ := s_bind h
      refine u_calliV (r := q8) (As := [.int l4, .int (4 : Int32)]) (rest := [.int q7]) (wc := (wd_X5_cell cI cB cZ a_p1 a_p1_cells n_p1_cells p1_width p1_most p1_cells p1_rows)) hx hb hml hown hts hK hA hl hS (c_X5_cell l D cI cB cZ a_p1 a_p1_cells n_p1_cells p1_width p1_most p1_cells p1_rows l4 (4 : Int32) _ _ hq8) (cwV 2 hts gX7_fitsRemarks_X5_cell rfl rfl rfl (by decide +kernel) ⟨Nat.le_of_ble_eq_true rfl, Nat.le_of_ble_eq_true rfl⟩) 0 rfl rfl [0, 1] rfl rfl rfl rfl (Nat.le_of_ble_eq_true rfl) dX7_fitsRemarks_67 (fun H locs hS => ?_)
      refine lv_icmp_eq (tgt := 75) hx hb dX7_fitsRemarks_70 (by decide) (fun c9 => ?_) (fun c9 => ?_)
      · replace h := s_yes c9 h
        exact w_X7_fitsRemarks_b75 C0 hend (f_X7_fitsRemarks_b3 n_p1_cells p1_width p1_cells p1_rows fu) ih l2 l3 l4 _ _ _ h hS (lv_sub hl [3, 4, 5, 6] rfl)
      replace h := s_no c9 h
      refine lv_iconst (v := (0 : Int32)) hx hb dX7_fitsRemarks_73 (by decide) ?_
      obtain rfl := Option.some.inj h
      exact hend _ _ _ _ dX7_fitsRemarks_74 (Or.inl rfl) hS
    replace h := s_no c3 h
    refine lv_goto (tgt := 75) hx hb dX7_fitsRemarks_23 (by decide) ?_
    exact w_X7_fitsRemarks_b75 C0 hend (f_X7_fitsRemarks_b3 n_p1_cells p1_width p1_cells p1_rows fu) ih l2 l3 l4 _ _ _ h hS (lv_sub hl [0, 1, 2, 3] rfl)
def f_X7_fitsRemarks (n_p1_cells : Nat) (p1_width : Int32) (p1_cells : (Nat → Int32)) (p1_rows : Int32)  (p2 : Int32) (p3 : Int32) : Option (Int32) := f_X7_fitsRemarks_b3  n_p1_cells p1_width p1_cells p1_rows s_fuel p2 p3 (0 : Int32)
set_option maxHeartbeats 4000000 in
set_option maxRecDepth 100000 in
theorem c_X7_fitsRemarks (l : Launch) (D : va_G) (cI cB cZ : ClassId) (a_this : Nat) (a_p1 : Nat) (a_p1_cells : Nat) (n_p1_cells : Nat) (p1_width : Int32) (p1_most : Int32) (p1_cells : (Nat → Int32)) (p1_rows : Int32) (p2 : Int32) (p3 : Int32) (rv : Int32) (sz : Nat) (hf : f_X7_fitsRemarks n_p1_cells p1_width p1_cells p1_rows p2 p3 = some rv) : Met l yX7_fitsRemarks wsX7_fitsRemarks rm_X7_fitsRemarks (sPc D vwCl (s_tys cI cB cZ) [.ref a_this, .ref a_p1, .int p2, .int p3] (wd_X7_fitsRemarks cI cB cZ a_this a_p1 a_p1_cells n_p1_cells p1_width p1_most p1_cells p1_rows) sz) (sQi D vwCl (wd_X7_fitsRemarks cI cB cZ a_this a_p1 a_p1_cells n_p1_cells p1_width p1_most p1_cells p1_rows) (wd_X7_fitsRemarks cI cB cZ a_this a_p1 a_p1_cells n_p1_cells p1_width p1_most p1_cells p1_rows) sz rv) 0 0 (va_A (wd_X7_fitsRemarks cI cB cZ a_this a_p1 a_p1_cells n_p1_cells p1_width p1_most p1_cells p1_rows) sz) := by
  refine s_enter_z (cc := cX7_fitsRemarks) (nL := 8) (r := rv) (by decide) rfl (Nat.le_of_ble_eq_true rfl) ?_
  intro p e s m args below meth c A Q C0 hend ls hl hS
  have h := hf
  clear hf
  replace hl : lv_has ls 8 [(0, .ref a_this), (1, .ref a_p1), (2, .int p2), (3, .int p3)] := hl
  unfold f_X7_fitsRemarks at h
  obtain ⟨hx, hb, hml, hown, hts, hK, hA⟩ := id C0
  have inX5 : ∀ w ∈ u_ws RX5 TX5 4, w ∈ wsX7_fitsRemarks := inX5_X7_fitsRemarks
  refine lv_iconst (v := (0 : Int32)) hx hb dX7_fitsRemarks_0 (by decide) ?_
  refine lv_istore (lv' := [(4, .int (0 : Int32)), (0, .ref a_this), (1, .ref a_p1), (2, .int p2), (3, .int p3)]) hx hb dX7_fitsRemarks_1 hl (by decide) rfl (fun ls hl => ?_)
  exact w_X7_fitsRemarks_b3 C0 hend  s_fuel p2 p3 (0 : Int32) _ _ _ h hS (lv_sub hl [2, 3, 4, 0] rfl)

-- InnTurned$Wits.guestKinds(LInnTurned$House;I)I
def wd_X7_guestKinds (cI cB cZ : ClassId) (a_this : Nat) (a_answers : Nat) (a_p1 : Nat) (a_p1_wets : Nat) (a_p1_guests : Nat) (a_p1_sights : Nat) (a_p1_remarks : Nat) (a_p1_remarks_cells : Nat) (a_p1_marks : Nat) (a_p1_past : Nat)  (p1_remarks_cells : (Nat → Int32)) (p1_remarks_rows : Int32) (p1_host : Int32) (p1_rooms : Int32) (p1_night : Int32) (p1_wheels : Int32) (p1_turned : Int32) : va_W := [(a_this, .inr (4, [.ref a_answers])), (a_p1, .inr (0, [.ref a_p1_wets, .ref a_p1_guests, .ref a_p1_sights, .ref a_p1_remarks, .ref a_p1_marks, .ref a_p1_past, .int p1_host, .int p1_rooms, .int p1_night, .int p1_wheels, .int p1_turned])), (a_p1_remarks, .inr (3, [.int 5, .int 6, .ref a_p1_remarks_cells, .int p1_remarks_rows])), (a_p1_remarks_cells, .inl (cI, 30, .inl p1_remarks_cells))]
abbrev rm_X7_guestKinds : Room := { frames := 2, cells := 0, slots := 0, locals := 53 }
set_option maxRecDepth 20000 in
theorem inX1_X7_guestKinds : ∀ w ∈ u_ws RX1 TX1 11, w ∈ wsX7_guestKinds := by decide +kernel
def f_X7_guestKinds_b33 (k_b5 : Int32 → Int32 → Int32 → Option (Int32))  (p1_remarks_cells : (Nat → Int32)) (p1_remarks_rows : Int32)  (l2 : Int32) (l3 : Int32) (l4 : Int32) : Option (Int32) := k_b5 l2 l3 (l4 + (1 : Int32))
set_option maxHeartbeats 4000000 in
set_option maxRecDepth 100000 in
theorem w_X7_guestKinds_b33 {p : Program} {l : Launch} {e : Env} {s : State} {m : MethodId} {args : Array Value} {below : List Frame} {meth : Method} {c : Code} {A : Nat → Prop} {Q : State → Prop} {D : va_G} {cI cB cZ : ClassId} {a_this a_answers a_p1 a_p1_wets a_p1_guests a_p1_sights a_p1_remarks a_p1_remarks_cells a_p1_marks a_p1_past : Nat} {p1_remarks_cells : (Nat → Int32)} {p1_remarks_rows : Int32} {p1_host : Int32} {p1_rooms : Int32} {p1_night : Int32} {p1_wheels : Int32} {p1_turned : Int32} (C0 : Cx p s m args c cX7_guestKinds 5 RX7 wsX7_guestKinds D (s_tys cI cB cZ) A) {rv : Int32} (hend : ∀ (pc : Nat) (H : Heap) (locs : List Loc) (ls : Array Slot), decode cX7_guestKinds pc = .ok (.ireturn, 1) → sS D vwCl A s.heap (wd_X7_guestKinds cI cB cZ a_this a_answers a_p1 a_p1_wets a_p1_guests a_p1_sights a_p1_remarks a_p1_remarks_cells a_p1_marks a_p1_past p1_remarks_cells p1_remarks_rows p1_host p1_rooms p1_night p1_wheels p1_turned) H locs → W p l e rm_X7_guestKinds s m args below meth c H locs 0 0 Q (F0 m pc ls [.int rv])) (k_b5 : Int32 → Int32 → Int32 → Option (Int32)) (hk_b5 : ∀  (l2 : Int32) (l3 : Int32) (l4 : Int32) (H : Heap) (locs : List Loc) (ls : Array Slot), k_b5 l2 l3 l4 = some rv → sS D vwCl A s.heap (wd_X7_guestKinds cI cB cZ a_this a_answers a_p1 a_p1_wets a_p1_guests a_p1_sights a_p1_remarks a_p1_remarks_cells a_p1_marks a_p1_past p1_remarks_cells p1_remarks_rows p1_host p1_rooms p1_night p1_wheels p1_turned) H locs → lv_has ls 5 [(0, .ref a_this), (1, .ref a_p1), (2, .int l2), (3, .int l3), (4, .int l4)] → W p l e rm_X7_guestKinds s m args below meth c H locs 0 0 Q (F0 m 5 ls [])) : ∀  (l2 : Int32) (l3 : Int32) (l4 : Int32) (H : Heap) (locs : List Loc) (ls : Array Slot), f_X7_guestKinds_b33 k_b5 p1_remarks_cells p1_remarks_rows l2 l3 l4 = some rv → sS D vwCl A s.heap (wd_X7_guestKinds cI cB cZ a_this a_answers a_p1 a_p1_wets a_p1_guests a_p1_sights a_p1_remarks a_p1_remarks_cells a_p1_marks a_p1_past p1_remarks_cells p1_remarks_rows p1_host p1_rooms p1_night p1_wheels p1_turned) H locs → lv_has ls 5 [(0, .ref a_this), (1, .ref a_p1), (2, .int l2), (3, .int l3), (4, .int l4)] → W p l e rm_X7_guestKinds s m args below meth c H locs 0 0 Q (F0 m 33 ls []) := by
  obtain ⟨hx, hb, hml, hown, hts, hK, hA⟩ := id C0
  have inX1 : ∀ w ∈ u_ws RX1 TX1 11, w ∈ wsX7_guestKinds := inX1_X7_guestKinds
  intro l2 l3 l4 H locs ls h hS hl
  unfold f_X7_guestKinds_b33 at h
  refine lv_iinc (v := (l4 + (1 : Int32))) (lv' := [(4, .int (l4 + (1 : Int32))), (0, .ref a_this), (1, .ref a_p1), (2, .int l2), (3, .int l3)]) hx hb dX7_guestKinds_33 hl (k := 4) rfl rfl (by decide) rfl (fun ls hl => ?_)
  refine lv_goto (tgt := 5) hx hb dX7_guestKinds_36 (by decide) ?_
  exact hk_b5 l2 l3 (l4 + (1 : Int32)) _ _ _ h hS (lv_sub hl [1, 2, 3, 4, 0] rfl)
def f_X7_guestKinds_b5  (p1_remarks_cells : (Nat → Int32)) (p1_remarks_rows : Int32) : Nat → Int32 → Int32 → Int32 → Option (Int32)
  | 0, _, _, _ => none
  | fu + 1, l2, l3, l4 => (if (6 : Int32) ≤ l4 then some (l3) else ((f_X7_fitsRemarks 30 (5 : Int32) p1_remarks_cells p1_remarks_rows l2 l4).bind fun q2 => (if q2 = 0 then f_X7_guestKinds_b33 (f_X7_guestKinds_b5 p1_remarks_cells p1_remarks_rows fu) p1_remarks_cells p1_remarks_rows l2 l3 l4 else f_X7_guestKinds_b33 (f_X7_guestKinds_b5 p1_remarks_cells p1_remarks_rows fu) p1_remarks_cells p1_remarks_rows l2 (l3 ||| ((1 : Int32) <<< (l4 &&& 31))) l4)))
set_option maxHeartbeats 4000000 in
set_option maxRecDepth 100000 in
theorem w_X7_guestKinds_b5 {p : Program} {l : Launch} {e : Env} {s : State} {m : MethodId} {args : Array Value} {below : List Frame} {meth : Method} {c : Code} {A : Nat → Prop} {Q : State → Prop} {D : va_G} {cI cB cZ : ClassId} {a_this a_answers a_p1 a_p1_wets a_p1_guests a_p1_sights a_p1_remarks a_p1_remarks_cells a_p1_marks a_p1_past : Nat} {p1_remarks_cells : (Nat → Int32)} {p1_remarks_rows : Int32} {p1_host : Int32} {p1_rooms : Int32} {p1_night : Int32} {p1_wheels : Int32} {p1_turned : Int32} (C0 : Cx p s m args c cX7_guestKinds 5 RX7 wsX7_guestKinds D (s_tys cI cB cZ) A) {rv : Int32} (hend : ∀ (pc : Nat) (H : Heap) (locs : List Loc) (ls : Array Slot), decode cX7_guestKinds pc = .ok (.ireturn, 1) → sS D vwCl A s.heap (wd_X7_guestKinds cI cB cZ a_this a_answers a_p1 a_p1_wets a_p1_guests a_p1_sights a_p1_remarks a_p1_remarks_cells a_p1_marks a_p1_past p1_remarks_cells p1_remarks_rows p1_host p1_rooms p1_night p1_wheels p1_turned) H locs → W p l e rm_X7_guestKinds s m args below meth c H locs 0 0 Q (F0 m pc ls [.int rv])) : ∀ (fu : Nat)  (l2 : Int32) (l3 : Int32) (l4 : Int32) (H : Heap) (locs : List Loc) (ls : Array Slot), f_X7_guestKinds_b5 p1_remarks_cells p1_remarks_rows fu l2 l3 l4 = some rv → sS D vwCl A s.heap (wd_X7_guestKinds cI cB cZ a_this a_answers a_p1 a_p1_wets a_p1_guests a_p1_sights a_p1_remarks a_p1_remarks_cells a_p1_marks a_p1_past p1_remarks_cells p1_remarks_rows p1_host p1_rooms p1_night p1_wheels p1_turned) H locs → lv_has ls 5 [(0, .ref a_this), (1, .ref a_p1), (2, .int l2), (3, .int l3), (4, .int l4)] → W p l e rm_X7_guestKinds s m args below meth c H locs 0 0 Q (F0 m 5 ls []) := by
  obtain ⟨hx, hb, hml, hown, hts, hK, hA⟩ := id C0
  have inX1 : ∀ w ∈ u_ws RX1 TX1 11, w ∈ wsX7_guestKinds := inX1_X7_guestKinds
  intro fu
  induction fu with
  | zero => intro l2 l3 l4 H locs ls h; cases h
  | succ fu ih =>
    intro l2 l3 l4 H locs ls h hS hl
    rw [f_X7_guestKinds_b5] at h
    refine lv_iload hx hb dX7_guestKinds_5 (lv_at hl 4 rfl) ?_
    refine lv_bipush (v := (6 : Int32)) hx hb dX7_guestKinds_7 (by decide) ?_
    refine lv_icmp_ge (tgt := 39) hx hb dX7_guestKinds_9 (by decide) (fun c1 => ?_) (fun c1 => ?_)
    · replace h := s_yes c1 h
      refine lv_iload_n hx hb dX7_guestKinds_39 rfl (lv_at hl 3 rfl) ?_
      obtain rfl := Option.some.inj h
      exact hend _ _ _ _ dX7_guestKinds_40 hS
    replace h := s_no c1 h
    refine lv_aload_n hx hb dX7_guestKinds_12 rfl (lv_at hl 0 rfl) ?_
    refine lv_aload_n hx hb dX7_guestKinds_13 rfl (lv_at hl 1 rfl) ?_
    refine s_getN (C := RX1) (T := TX1) (N := 11) hx hb hts inX1 hown hK hS 1 rfl rfl 3 (by decide) 12 rfl rfl rfl dX7_guestKinds_14 ?_
    refine lv_iload_n hx hb dX7_guestKinds_17 rfl (lv_at hl 2 rfl) ?_
    refine lv_iload hx hb dX7_guestKinds_18 (lv_at hl 4 rfl) ?_
    obtain ⟨q2, hq2, h⟩ := s_bind h
    refine u_calliV (r := q2) (As := [.ref a_p1_remarks, .int l2, .int l4]) (rest := []) (wc := (wd_X7_fitsRemarks cI cB cZ a_this a_p1_remarks a_p1_remarks_cells 30 (5 : Int32) (6 : Int32) p1_remarks_cells p1_remarks_rows)) hx hb hml hown hts hK hA hl hS (c_X7_fitsRemarks l D cI cB cZ a_this a_p1_remarks a_p1_remarks_cells 30 (5 : Int32) (6 : Int32) p1_remarks_cells p1_remarks_rows l2 l4 _ _ hq2) (cwV 3 hts gX7_guestKinds_X7_fitsRemarks rfl rfl rfl (by decide +kernel) ⟨Nat.le_of_ble_eq_true rfl, Nat.le_of_ble_eq_true rfl⟩) 0 rfl rfl [2, 3] rfl rfl rfl rfl (Nat.le_of_ble_eq_true rfl) dX7_guestKinds_20 (fun H locs hS => ?_)
    refine lv_if_eq (tgt := 33) hx hb dX7_guestKinds_23 (by decide) (fun c3 => ?_) (fun c3 => ?_)
    · replace h := s_yes c3 h
      exact w_X7_guestKinds_b33 C0 hend (f_X7_guestKinds_b5 p1_remarks_cells p1_remarks_rows fu) ih l2 l3 l4 _ _ _ h hS (lv_sub hl [0, 1, 2, 3, 4] rfl)
    replace h := s_no c3 h
    refine lv_iload_n hx hb dX7_guestKinds_26 rfl (lv_at hl 3 rfl) ?_
    refine lv_iconst (v := (1 : Int32)) hx hb dX7_guestKinds_27 (by decide) ?_
    refine lv_iload hx hb dX7_guestKinds_28 (lv_at hl 4 rfl) ?_
    refine lv_ishl hx hb dX7_guestKinds_30 ?_
    refine lv_ior hx hb dX7_guestKinds_31 ?_
    refine lv_istore_n (lv' := [(3, .int (l3 ||| ((1 : Int32) <<< (l4 &&& 31)))), (0, .ref a_this), (1, .ref a_p1), (2, .int l2), (4, .int l4)]) hx hb dX7_guestKinds_32 rfl hl (by decide) rfl (fun ls hl => ?_)
    exact w_X7_guestKinds_b33 C0 hend (f_X7_guestKinds_b5 p1_remarks_cells p1_remarks_rows fu) ih l2 (l3 ||| ((1 : Int32) <<< (l4 &&& 31))) l4 _ _ _ h hS (lv_sub hl [1, 2, 3, 0, 4] rfl)
def f_X7_guestKinds  (p1_remarks_cells : (Nat → Int32)) (p1_remarks_rows : Int32)  (p2 : Int32) : Option (Int32) := f_X7_guestKinds_b5  p1_remarks_cells p1_remarks_rows s_fuel p2 (0 : Int32) (0 : Int32)
set_option maxHeartbeats 4000000 in
set_option maxRecDepth 100000 in
theorem c_X7_guestKinds (l : Launch) (D : va_G) (cI cB cZ : ClassId) (a_this : Nat) (a_answers : Nat) (a_p1 : Nat) (a_p1_wets : Nat) (a_p1_guests : Nat) (a_p1_sights : Nat) (a_p1_remarks : Nat) (a_p1_remarks_cells : Nat) (a_p1_marks : Nat) (a_p1_past : Nat) (p1_remarks_cells : (Nat → Int32)) (p1_remarks_rows : Int32) (p1_host : Int32) (p1_rooms : Int32) (p1_night : Int32) (p1_wheels : Int32) (p1_turned : Int32) (p2 : Int32) (rv : Int32) (sz : Nat) (hf : f_X7_guestKinds p1_remarks_cells p1_remarks_rows p2 = some rv) : Met l yX7_guestKinds wsX7_guestKinds rm_X7_guestKinds (sPc D vwCl (s_tys cI cB cZ) [.ref a_this, .ref a_p1, .int p2] (wd_X7_guestKinds cI cB cZ a_this a_answers a_p1 a_p1_wets a_p1_guests a_p1_sights a_p1_remarks a_p1_remarks_cells a_p1_marks a_p1_past p1_remarks_cells p1_remarks_rows p1_host p1_rooms p1_night p1_wheels p1_turned) sz) (sQi D vwCl (wd_X7_guestKinds cI cB cZ a_this a_answers a_p1 a_p1_wets a_p1_guests a_p1_sights a_p1_remarks a_p1_remarks_cells a_p1_marks a_p1_past p1_remarks_cells p1_remarks_rows p1_host p1_rooms p1_night p1_wheels p1_turned) (wd_X7_guestKinds cI cB cZ a_this a_answers a_p1 a_p1_wets a_p1_guests a_p1_sights a_p1_remarks a_p1_remarks_cells a_p1_marks a_p1_past p1_remarks_cells p1_remarks_rows p1_host p1_rooms p1_night p1_wheels p1_turned) sz rv) 0 0 (va_A (wd_X7_guestKinds cI cB cZ a_this a_answers a_p1 a_p1_wets a_p1_guests a_p1_sights a_p1_remarks a_p1_remarks_cells a_p1_marks a_p1_past p1_remarks_cells p1_remarks_rows p1_host p1_rooms p1_night p1_wheels p1_turned) sz) := by
  refine s_enter_n (cc := cX7_guestKinds) (nL := 5) (r := rv) (by decide) rfl (Nat.le_of_ble_eq_true rfl) ?_
  intro p e s m args below meth c A Q C0 hend ls hl hS
  have h := hf
  clear hf
  replace hl : lv_has ls 5 [(0, .ref a_this), (1, .ref a_p1), (2, .int p2)] := hl
  unfold f_X7_guestKinds at h
  obtain ⟨hx, hb, hml, hown, hts, hK, hA⟩ := id C0
  have inX1 : ∀ w ∈ u_ws RX1 TX1 11, w ∈ wsX7_guestKinds := inX1_X7_guestKinds
  refine lv_iconst (v := (0 : Int32)) hx hb dX7_guestKinds_0 (by decide) ?_
  refine lv_istore_n (lv' := [(3, .int (0 : Int32)), (0, .ref a_this), (1, .ref a_p1), (2, .int p2)]) hx hb dX7_guestKinds_1 rfl hl (by decide) rfl (fun ls hl => ?_)
  refine lv_iconst (v := (0 : Int32)) hx hb dX7_guestKinds_2 (by decide) ?_
  refine lv_istore (lv' := [(4, .int (0 : Int32)), (3, .int (0 : Int32)), (0, .ref a_this), (1, .ref a_p1), (2, .int p2)]) hx hb dX7_guestKinds_3 hl (by decide) rfl (fun ls hl => ?_)
  exact w_X7_guestKinds_b5 C0 hend  s_fuel p2 (0 : Int32) (0 : Int32) _ _ _ h hS (lv_sub hl [2, 3, 4, 1, 0] rfl)

-- InnTurned$Wits.mostAlike(I)I
def wd_X7_mostAlike (cI cB cZ : ClassId) (a_this : Nat) (a_answers : Nat)  (answers : (Nat → Int32)) : va_W := [(a_this, .inr (4, [.ref a_answers])), (a_answers, .inl (cI, 6, .inl answers))]
abbrev rm_X7_mostAlike : Room := { frames := 1, cells := 0, slots := 0, locals := 21 }
set_option maxRecDepth 20000 in
theorem inX7_X7_mostAlike : ∀ w ∈ u_ws RX7 TX7 1, w ∈ wsX7_mostAlike := by decide +kernel
def f_X7_mostAlike_b68 (k_b4 : Int32 → Int32 → Int32 → Option (Int32)) (k_b16 : Int32 → Int32 → Int32 → Int32 → Int32 → Option (Int32))  (answers : (Nat → Int32))  (l1 : Int32) (l2 : Int32) (l3 : Int32) (l4 : Int32) (l5 : Int32) : Option (Int32) := k_b16 l1 l2 l3 l4 (l5 + (1 : Int32))
set_option maxHeartbeats 4000000 in
set_option maxRecDepth 100000 in
theorem w_X7_mostAlike_b68 {p : Program} {l : Launch} {e : Env} {s : State} {m : MethodId} {args : Array Value} {below : List Frame} {meth : Method} {c : Code} {A : Nat → Prop} {Q : State → Prop} {D : va_G} {cI cB cZ : ClassId} {a_this a_answers : Nat} {answers : (Nat → Int32)} (C0 : Cx p s m args c cX7_mostAlike 7 RX7 wsX7_mostAlike D (s_tys cI cB cZ) A) {rv : Int32} (hend : ∀ (pc : Nat) (H : Heap) (locs : List Loc) (ls : Array Slot), decode cX7_mostAlike pc = .ok (.ireturn, 1) → sS D vwCl A s.heap (wd_X7_mostAlike cI cB cZ a_this a_answers answers) H locs → W p l e rm_X7_mostAlike s m args below meth c H locs 0 0 Q (F0 m pc ls [.int rv])) (k_b4 : Int32 → Int32 → Int32 → Option (Int32)) (hk_b4 : ∀  (l1 : Int32) (l2 : Int32) (l3 : Int32) (H : Heap) (locs : List Loc) (ls : Array Slot), k_b4 l1 l2 l3 = some rv → sS D vwCl A s.heap (wd_X7_mostAlike cI cB cZ a_this a_answers answers) H locs → lv_has ls 7 [(0, .ref a_this), (1, .int l1), (2, .int l2), (3, .int l3)] → W p l e rm_X7_mostAlike s m args below meth c H locs 0 0 Q (F0 m 4 ls [])) (k_b16 : Int32 → Int32 → Int32 → Int32 → Int32 → Option (Int32)) (hk_b16 : ∀  (l1 : Int32) (l2 : Int32) (l3 : Int32) (l4 : Int32) (l5 : Int32) (H : Heap) (locs : List Loc) (ls : Array Slot), k_b16 l1 l2 l3 l4 l5 = some rv → sS D vwCl A s.heap (wd_X7_mostAlike cI cB cZ a_this a_answers answers) H locs → lv_has ls 7 [(0, .ref a_this), (1, .int l1), (2, .int l2), (3, .int l3), (4, .int l4), (5, .int l5)] → W p l e rm_X7_mostAlike s m args below meth c H locs 0 0 Q (F0 m 16 ls [])) : ∀  (l1 : Int32) (l2 : Int32) (l3 : Int32) (l4 : Int32) (l5 : Int32) (H : Heap) (locs : List Loc) (ls : Array Slot), f_X7_mostAlike_b68 k_b4 k_b16 answers l1 l2 l3 l4 l5 = some rv → sS D vwCl A s.heap (wd_X7_mostAlike cI cB cZ a_this a_answers answers) H locs → lv_has ls 7 [(0, .ref a_this), (1, .int l1), (2, .int l2), (3, .int l3), (4, .int l4), (5, .int l5)] → W p l e rm_X7_mostAlike s m args below meth c H locs 0 0 Q (F0 m 68 ls []) := by
  obtain ⟨hx, hb, hml, hown, hts, hK, hA⟩ := id C0
  have inX7 : ∀ w ∈ u_ws RX7 TX7 1, w ∈ wsX7_mostAlike := inX7_X7_mostAlike
  intro l1 l2 l3 l4 l5 H locs ls h hS hl
  unfold f_X7_mostAlike_b68 at h
  refine lv_iinc (v := (l5 + (1 : Int32))) (lv' := [(5, .int (l5 + (1 : Int32))), (0, .ref a_this), (1, .int l1), (2, .int l2), (3, .int l3), (4, .int l4)]) hx hb dX7_mostAlike_68 hl (k := 5) rfl rfl (by decide) rfl (fun ls hl => ?_)
  refine lv_goto (tgt := 16) hx hb dX7_mostAlike_71 (by decide) ?_
  exact hk_b16 l1 l2 l3 l4 (l5 + (1 : Int32)) _ _ _ h hS (lv_sub hl [1, 2, 3, 4, 5, 0] rfl)
def f_X7_mostAlike_b42 (k_b4 : Int32 → Int32 → Int32 → Option (Int32)) (k_b16 : Int32 → Int32 → Int32 → Int32 → Int32 → Option (Int32))  (answers : (Nat → Int32))  (l1 : Int32) (l2 : Int32) (l3 : Int32) (l4 : Int32) (l5 : Int32) (t0 : Int32) : Option (Int32) := (if t0 = 0 then f_X7_mostAlike_b68 k_b4 k_b16 answers l1 l2 l3 l4 l5 else (if ¬ (l3 < 0 ∨ 6 ≤ (Int32.toNatClampNeg l3)) then (if ¬ (l5 < 0 ∨ 6 ≤ (Int32.toNatClampNeg l5)) then (if (answers (Int32.toNatClampNeg l3)) = (answers (Int32.toNatClampNeg l5)) then f_X7_mostAlike_b68 k_b4 k_b16 answers l1 l2 l3 (l4 + (1 : Int32)) l5 else f_X7_mostAlike_b68 k_b4 k_b16 answers l1 l2 l3 l4 l5) else none) else none))
set_option maxHeartbeats 4000000 in
set_option maxRecDepth 100000 in
theorem w_X7_mostAlike_b42 {p : Program} {l : Launch} {e : Env} {s : State} {m : MethodId} {args : Array Value} {below : List Frame} {meth : Method} {c : Code} {A : Nat → Prop} {Q : State → Prop} {D : va_G} {cI cB cZ : ClassId} {a_this a_answers : Nat} {answers : (Nat → Int32)} (C0 : Cx p s m args c cX7_mostAlike 7 RX7 wsX7_mostAlike D (s_tys cI cB cZ) A) {rv : Int32} (hend : ∀ (pc : Nat) (H : Heap) (locs : List Loc) (ls : Array Slot), decode cX7_mostAlike pc = .ok (.ireturn, 1) → sS D vwCl A s.heap (wd_X7_mostAlike cI cB cZ a_this a_answers answers) H locs → W p l e rm_X7_mostAlike s m args below meth c H locs 0 0 Q (F0 m pc ls [.int rv])) (k_b4 : Int32 → Int32 → Int32 → Option (Int32)) (hk_b4 : ∀  (l1 : Int32) (l2 : Int32) (l3 : Int32) (H : Heap) (locs : List Loc) (ls : Array Slot), k_b4 l1 l2 l3 = some rv → sS D vwCl A s.heap (wd_X7_mostAlike cI cB cZ a_this a_answers answers) H locs → lv_has ls 7 [(0, .ref a_this), (1, .int l1), (2, .int l2), (3, .int l3)] → W p l e rm_X7_mostAlike s m args below meth c H locs 0 0 Q (F0 m 4 ls [])) (k_b16 : Int32 → Int32 → Int32 → Int32 → Int32 → Option (Int32)) (hk_b16 : ∀  (l1 : Int32) (l2 : Int32) (l3 : Int32) (l4 : Int32) (l5 : Int32) (H : Heap) (locs : List Loc) (ls : Array Slot), k_b16 l1 l2 l3 l4 l5 = some rv → sS D vwCl A s.heap (wd_X7_mostAlike cI cB cZ a_this a_answers answers) H locs → lv_has ls 7 [(0, .ref a_this), (1, .int l1), (2, .int l2), (3, .int l3), (4, .int l4), (5, .int l5)] → W p l e rm_X7_mostAlike s m args below meth c H locs 0 0 Q (F0 m 16 ls [])) : ∀  (l1 : Int32) (l2 : Int32) (l3 : Int32) (l4 : Int32) (l5 : Int32) (t0 : Int32) (H : Heap) (locs : List Loc) (ls : Array Slot), f_X7_mostAlike_b42 k_b4 k_b16 answers l1 l2 l3 l4 l5 t0 = some rv → sS D vwCl A s.heap (wd_X7_mostAlike cI cB cZ a_this a_answers answers) H locs → lv_has ls 7 [(0, .ref a_this), (1, .int l1), (2, .int l2), (3, .int l3), (4, .int l4), (5, .int l5)] → W p l e rm_X7_mostAlike s m args below meth c H locs 0 0 Q (F0 m 42 ls [.int t0]) := by
  obtain ⟨hx, hb, hml, hown, hts, hK, hA⟩ := id C0
  have inX7 : ∀ w ∈ u_ws RX7 TX7 1, w ∈ wsX7_mostAlike := inX7_X7_mostAlike
  intro l1 l2 l3 l4 l5 t0 H locs ls h hS hl
  unfold f_X7_mostAlike_b42 at h
  refine lv_istore (lv' := [(6, .int t0), (0, .ref a_this), (1, .int l1), (2, .int l2), (3, .int l3), (4, .int l4), (5, .int l5)]) hx hb dX7_mostAlike_42 hl (by decide) rfl (fun ls hl => ?_)
  refine lv_iload hx hb dX7_mostAlike_44 (lv_at hl 0 rfl) ?_
  refine lv_if_eq (tgt := 68) hx hb dX7_mostAlike_46 (by decide) (fun c1 => ?_) (fun c1 => ?_)
  · replace h := s_yes c1 h
    exact w_X7_mostAlike_b68 C0 hend k_b4 hk_b4 k_b16 hk_b16 l1 l2 l3 l4 l5 _ _ _ h hS (lv_sub hl [1, 2, 3, 4, 5, 6] rfl)
  replace h := s_no c1 h
  refine lv_aload_n hx hb dX7_mostAlike_49 rfl (lv_at hl 1 rfl) ?_
  refine s_get (C := RX7) (T := TX7) (N := 1) hx hb hts inX7 hown hK hS 0 rfl rfl 0 (by decide) (hts (.fieldLink RX7 9 "InnTurned$Wits" "answers" "[I") (List.mem_of_getElem? (i := 1) rfl)) rfl rfl dX7_mostAlike_50 ?_
  refine lv_iload_n hx hb dX7_mostAlike_53 rfl (lv_at hl 4 rfl) ?_
  obtain ⟨g2, h⟩ := s_guard h
  refine s_iald hx hb hK hS 1 rfl rfl g2 dX7_mostAlike_54 ?_
  refine lv_aload_n hx hb dX7_mostAlike_55 rfl (lv_at hl 1 rfl) ?_
  refine s_get (C := RX7) (T := TX7) (N := 1) hx hb hts inX7 hown hK hS 0 rfl rfl 0 (by decide) (hts (.fieldLink RX7 9 "InnTurned$Wits" "answers" "[I") (List.mem_of_getElem? (i := 1) rfl)) rfl rfl dX7_mostAlike_56 ?_
  refine lv_iload hx hb dX7_mostAlike_59 (lv_at hl 6 rfl) ?_
  obtain ⟨g3, h⟩ := s_guard h
  refine s_iald hx hb hK hS 1 rfl rfl g3 dX7_mostAlike_61 ?_
  refine lv_icmp_ne (tgt := 68) hx hb dX7_mostAlike_62 (by decide) (fun c4 => ?_) (fun c4 => ?_)
  · replace h := s_no c4 h
    exact w_X7_mostAlike_b68 C0 hend k_b4 hk_b4 k_b16 hk_b16 l1 l2 l3 l4 l5 _ _ _ h hS (lv_sub hl [1, 2, 3, 4, 5, 6] rfl)
  replace h := s_yes c4 h
  refine lv_iinc (v := (l4 + (1 : Int32))) (lv' := [(4, .int (l4 + (1 : Int32))), (6, .int t0), (0, .ref a_this), (1, .int l1), (2, .int l2), (3, .int l3), (5, .int l5)]) hx hb dX7_mostAlike_65 hl (k := 5) rfl rfl (by decide) rfl (fun ls hl => ?_)
  exact w_X7_mostAlike_b68 C0 hend k_b4 hk_b4 k_b16 hk_b16 l1 l2 l3 (l4 + (1 : Int32)) l5 _ _ _ h hS (lv_sub hl [2, 3, 4, 5, 0, 6] rfl)
def f_X7_mostAlike_b16 (k_b4 : Int32 → Int32 → Int32 → Option (Int32))  (answers : (Nat → Int32)) : Nat → Int32 → Int32 → Int32 → Int32 → Int32 → Option (Int32)
  | 0, _, _, _, _, _ => none
  | fu + 1, l1, l2, l3, l4, l5 => (if (6 : Int32) ≤ l5 then k_b4 l1 (if l2 < l4 then l4 else l2) (l3 + (1 : Int32)) else (if (((l1 >>> (l3 &&& 31)) &&& (l1 >>> (l5 &&& 31))) &&& (1 : Int32)) = (1 : Int32) then f_X7_mostAlike_b42 k_b4 (f_X7_mostAlike_b16 k_b4 answers fu) answers l1 l2 l3 l4 l5 (1 : Int32) else f_X7_mostAlike_b42 k_b4 (f_X7_mostAlike_b16 k_b4 answers fu) answers l1 l2 l3 l4 l5 (0 : Int32)))
set_option maxHeartbeats 4000000 in
set_option maxRecDepth 100000 in
theorem w_X7_mostAlike_b16 {p : Program} {l : Launch} {e : Env} {s : State} {m : MethodId} {args : Array Value} {below : List Frame} {meth : Method} {c : Code} {A : Nat → Prop} {Q : State → Prop} {D : va_G} {cI cB cZ : ClassId} {a_this a_answers : Nat} {answers : (Nat → Int32)} (C0 : Cx p s m args c cX7_mostAlike 7 RX7 wsX7_mostAlike D (s_tys cI cB cZ) A) {rv : Int32} (hend : ∀ (pc : Nat) (H : Heap) (locs : List Loc) (ls : Array Slot), decode cX7_mostAlike pc = .ok (.ireturn, 1) → sS D vwCl A s.heap (wd_X7_mostAlike cI cB cZ a_this a_answers answers) H locs → W p l e rm_X7_mostAlike s m args below meth c H locs 0 0 Q (F0 m pc ls [.int rv])) (k_b4 : Int32 → Int32 → Int32 → Option (Int32)) (hk_b4 : ∀  (l1 : Int32) (l2 : Int32) (l3 : Int32) (H : Heap) (locs : List Loc) (ls : Array Slot), k_b4 l1 l2 l3 = some rv → sS D vwCl A s.heap (wd_X7_mostAlike cI cB cZ a_this a_answers answers) H locs → lv_has ls 7 [(0, .ref a_this), (1, .int l1), (2, .int l2), (3, .int l3)] → W p l e rm_X7_mostAlike s m args below meth c H locs 0 0 Q (F0 m 4 ls [])) : ∀ (fu : Nat)  (l1 : Int32) (l2 : Int32) (l3 : Int32) (l4 : Int32) (l5 : Int32) (H : Heap) (locs : List Loc) (ls : Array Slot), f_X7_mostAlike_b16 k_b4 answers fu l1 l2 l3 l4 l5 = some rv → sS D vwCl A s.heap (wd_X7_mostAlike cI cB cZ a_this a_answers answers) H locs → lv_has ls 7 [(0, .ref a_this), (1, .int l1), (2, .int l2), (3, .int l3), (4, .int l4), (5, .int l5)] → W p l e rm_X7_mostAlike s m args below meth c H locs 0 0 Q (F0 m 16 ls []) := by
  obtain ⟨hx, hb, hml, hown, hts, hK, hA⟩ := id C0
  have inX7 : ∀ w ∈ u_ws RX7 TX7 1, w ∈ wsX7_mostAlike := inX7_X7_mostAlike
  intro fu
  induction fu with
  | zero => intro l1 l2 l3 l4 l5 H locs ls h; cases h
  | succ fu ih =>
    intro l1 l2 l3 l4 l5 H locs ls h hS hl
    rw [f_X7_mostAlike_b16] at h
    refine lv_iload hx hb dX7_mostAlike_16 (lv_at hl 5 rfl) ?_
    refine lv_bipush (v := (6 : Int32)) hx hb dX7_mostAlike_18 (by decide) ?_
    refine lv_icmp_ge (tgt := 74) hx hb dX7_mostAlike_20 (by decide) (fun c5 => ?_) (fun c5 => ?_)
    · replace h := s_yes c5 h
      refine lv_iload_n hx hb dX7_mostAlike_74 rfl (lv_at hl 2 rfl) ?_
      refine lv_iload hx hb dX7_mostAlike_75 (lv_at hl 4 rfl) ?_
      refine s_max hx hb hml hl.1 hown (hts (.methodLink RX7 33 Lib.Math.max.name) (List.mem_of_getElem? (i := 2) rfl)) (hts (.static Lib.Math.max.name) (List.mem_of_getElem? (i := 3) rfl)) (hts (.initialized "java/lang/Math") (List.mem_of_getElem? (i := 4) rfl)) (hts (.code Lib.Math.max.name Lib.Math.max.code 2 (some .int)) (List.mem_of_getElem? (i := 5) rfl)) (Nat.le_of_ble_eq_true rfl) (Nat.le_of_ble_eq_true rfl) dX7_mostAlike_77 ?_
      refine lv_istore_n (lv' := [(2, .int (if l2 < l4 then l4 else l2)), (0, .ref a_this), (1, .int l1), (3, .int l3), (4, .int l4), (5, .int l5)]) hx hb dX7_mostAlike_80 rfl hl (by decide) rfl (fun ls hl => ?_)
      refine lv_iinc (v := (l3 + (1 : Int32))) (lv' := [(3, .int (l3 + (1 : Int32))), (2, .int (if l2 < l4 then l4 else l2)), (0, .ref a_this), (1, .int l1), (4, .int l4), (5, .int l5)]) hx hb dX7_mostAlike_81 hl (k := 3) rfl rfl (by decide) rfl (fun ls hl => ?_)
      refine lv_goto (tgt := 4) hx hb dX7_mostAlike_84 (by decide) ?_
      exact hk_b4 l1 (if l2 < l4 then l4 else l2) (l3 + (1 : Int32)) _ _ _ h hS (lv_sub hl [2, 3, 1, 0] rfl)
    replace h := s_no c5 h
    refine lv_iload_n hx hb dX7_mostAlike_23 rfl (lv_at hl 1 rfl) ?_
    refine lv_iload_n hx hb dX7_mostAlike_24 rfl (lv_at hl 3 rfl) ?_
    refine lv_ishr hx hb dX7_mostAlike_25 ?_
    refine lv_iload_n hx hb dX7_mostAlike_26 rfl (lv_at hl 1 rfl) ?_
    refine lv_iload hx hb dX7_mostAlike_27 (lv_at hl 5 rfl) ?_
    refine lv_ishr hx hb dX7_mostAlike_29 ?_
    refine lv_iand hx hb dX7_mostAlike_30 ?_
    refine lv_iconst (v := (1 : Int32)) hx hb dX7_mostAlike_31 (by decide) ?_
    refine lv_iand hx hb dX7_mostAlike_32 ?_
    refine lv_iconst (v := (1 : Int32)) hx hb dX7_mostAlike_33 (by decide) ?_
    refine lv_icmp_ne (tgt := 41) hx hb dX7_mostAlike_34 (by decide) (fun c6 => ?_) (fun c6 => ?_)
    · replace h := s_no c6 h
      refine lv_iconst (v := (0 : Int32)) hx hb dX7_mostAlike_41 (by decide) ?_
      exact w_X7_mostAlike_b42 C0 hend k_b4 hk_b4 (f_X7_mostAlike_b16 k_b4 answers fu) ih l1 l2 l3 l4 l5 (0 : Int32) _ _ _ h hS (lv_sub hl [0, 1, 2, 3, 4, 5] rfl)
    replace h := s_yes c6 h
    refine lv_iconst (v := (1 : Int32)) hx hb dX7_mostAlike_37 (by decide) ?_
    refine lv_goto (tgt := 42) hx hb dX7_mostAlike_38 (by decide) ?_
    exact w_X7_mostAlike_b42 C0 hend k_b4 hk_b4 (f_X7_mostAlike_b16 k_b4 answers fu) ih l1 l2 l3 l4 l5 (1 : Int32) _ _ _ h hS (lv_sub hl [0, 1, 2, 3, 4, 5] rfl)
def f_X7_mostAlike_b4  (answers : (Nat → Int32)) : Nat → Int32 → Int32 → Int32 → Option (Int32)
  | 0, _, _, _ => none
  | fu + 1, l1, l2, l3 => (if (6 : Int32) ≤ l3 then some (l2) else f_X7_mostAlike_b16 (f_X7_mostAlike_b4 answers fu) answers s_fuel l1 l2 l3 (0 : Int32) (0 : Int32))
set_option maxHeartbeats 4000000 in
set_option maxRecDepth 100000 in
theorem w_X7_mostAlike_b4 {p : Program} {l : Launch} {e : Env} {s : State} {m : MethodId} {args : Array Value} {below : List Frame} {meth : Method} {c : Code} {A : Nat → Prop} {Q : State → Prop} {D : va_G} {cI cB cZ : ClassId} {a_this a_answers : Nat} {answers : (Nat → Int32)} (C0 : Cx p s m args c cX7_mostAlike 7 RX7 wsX7_mostAlike D (s_tys cI cB cZ) A) {rv : Int32} (hend : ∀ (pc : Nat) (H : Heap) (locs : List Loc) (ls : Array Slot), decode cX7_mostAlike pc = .ok (.ireturn, 1) → sS D vwCl A s.heap (wd_X7_mostAlike cI cB cZ a_this a_answers answers) H locs → W p l e rm_X7_mostAlike s m args below meth c H locs 0 0 Q (F0 m pc ls [.int rv])) : ∀ (fu : Nat)  (l1 : Int32) (l2 : Int32) (l3 : Int32) (H : Heap) (locs : List Loc) (ls : Array Slot), f_X7_mostAlike_b4 answers fu l1 l2 l3 = some rv → sS D vwCl A s.heap (wd_X7_mostAlike cI cB cZ a_this a_answers answers) H locs → lv_has ls 7 [(0, .ref a_this), (1, .int l1), (2, .int l2), (3, .int l3)] → W p l e rm_X7_mostAlike s m args below meth c H locs 0 0 Q (F0 m 4 ls []) := by
  obtain ⟨hx, hb, hml, hown, hts, hK, hA⟩ := id C0
  have inX7 : ∀ w ∈ u_ws RX7 TX7 1, w ∈ wsX7_mostAlike := inX7_X7_mostAlike
  intro fu
  induction fu with
  | zero => intro l1 l2 l3 H locs ls h; cases h
  | succ fu ih =>
    intro l1 l2 l3 H locs ls h hS hl
    rw [f_X7_mostAlike_b4] at h
    refine lv_iload_n hx hb dX7_mostAlike_4 rfl (lv_at hl 3 rfl) ?_
    refine lv_bipush (v := (6 : Int32)) hx hb dX7_mostAlike_5 (by decide) ?_
    refine lv_icmp_ge (tgt := 87) hx hb dX7_mostAlike_7 (by decide) (fun c7 => ?_) (fun c7 => ?_)
    · replace h := s_yes c7 h
      refine lv_iload_n hx hb dX7_mostAlike_87 rfl (lv_at hl 2 rfl) ?_
      obtain rfl := Option.some.inj h
      exact hend _ _ _ _ dX7_mostAlike_88 hS
    replace h := s_no c7 h
    refine lv_iconst (v := (0 : Int32)) hx hb dX7_mostAlike_10 (by decide) ?_
    refine lv_istore (lv' := [(4, .int (0 : Int32)), (0, .ref a_this), (1, .int l1), (2, .int l2), (3, .int l3)]) hx hb dX7_mostAlike_11 hl (by decide) rfl (fun ls hl => ?_)
    refine lv_iconst (v := (0 : Int32)) hx hb dX7_mostAlike_13 (by decide) ?_
    refine lv_istore (lv' := [(5, .int (0 : Int32)), (4, .int (0 : Int32)), (0, .ref a_this), (1, .int l1), (2, .int l2), (3, .int l3)]) hx hb dX7_mostAlike_14 hl (by decide) rfl (fun ls hl => ?_)
    exact w_X7_mostAlike_b16 C0 hend (f_X7_mostAlike_b4 answers fu) ih s_fuel l1 l2 l3 (0 : Int32) (0 : Int32) _ _ _ h hS (lv_sub hl [2, 3, 4, 5, 1, 0] rfl)
def f_X7_mostAlike  (answers : (Nat → Int32))  (p1 : Int32) : Option (Int32) := f_X7_mostAlike_b4  answers s_fuel p1 (0 : Int32) (0 : Int32)
set_option maxHeartbeats 4000000 in
set_option maxRecDepth 100000 in
theorem c_X7_mostAlike (l : Launch) (D : va_G) (cI cB cZ : ClassId) (a_this : Nat) (a_answers : Nat) (answers : (Nat → Int32)) (p1 : Int32) (rv : Int32) (sz : Nat) (hf : f_X7_mostAlike answers p1 = some rv) : Met l yX7_mostAlike wsX7_mostAlike rm_X7_mostAlike (sPc D vwCl (s_tys cI cB cZ) [.ref a_this, .int p1] (wd_X7_mostAlike cI cB cZ a_this a_answers answers) sz) (sQi D vwCl (wd_X7_mostAlike cI cB cZ a_this a_answers answers) (wd_X7_mostAlike cI cB cZ a_this a_answers answers) sz rv) 0 0 (va_A (wd_X7_mostAlike cI cB cZ a_this a_answers answers) sz) := by
  refine s_enter_n (cc := cX7_mostAlike) (nL := 7) (r := rv) (by decide) rfl (Nat.le_of_ble_eq_true rfl) ?_
  intro p e s m args below meth c A Q C0 hend ls hl hS
  have h := hf
  clear hf
  replace hl : lv_has ls 7 [(0, .ref a_this), (1, .int p1)] := hl
  unfold f_X7_mostAlike at h
  obtain ⟨hx, hb, hml, hown, hts, hK, hA⟩ := id C0
  have inX7 : ∀ w ∈ u_ws RX7 TX7 1, w ∈ wsX7_mostAlike := inX7_X7_mostAlike
  refine lv_iconst (v := (0 : Int32)) hx hb dX7_mostAlike_0 (by decide) ?_
  refine lv_istore_n (lv' := [(2, .int (0 : Int32)), (0, .ref a_this), (1, .int p1)]) hx hb dX7_mostAlike_1 rfl hl (by decide) rfl (fun ls hl => ?_)
  refine lv_iconst (v := (0 : Int32)) hx hb dX7_mostAlike_2 (by decide) ?_
  refine lv_istore_n (lv' := [(3, .int (0 : Int32)), (2, .int (0 : Int32)), (0, .ref a_this), (1, .int p1)]) hx hb dX7_mostAlike_3 rfl hl (by decide) rfl (fun ls hl => ?_)
  exact w_X7_mostAlike_b4 C0 hend  s_fuel p1 (0 : Int32) (0 : Int32) _ _ _ h hS (lv_sub hl [2, 3, 1, 0] rfl)

-- InnTurned$Wits.bestLook(LInnTurned$House;I)I
def wd_X7_bestLook (cI cB cZ : ClassId) (a_this : Nat) (a_answers : Nat) (a_p1 : Nat) (a_p1_wets : Nat) (a_p1_guests : Nat) (a_p1_guests_cells : Nat) (a_p1_sights : Nat) (a_p1_remarks : Nat) (a_p1_remarks_cells : Nat) (a_p1_marks : Nat) (a_p1_past : Nat)  (answers : (Nat → Int32)) (p1_guests_cells : (Nat → Int32)) (p1_guests_rows : Int32) (p1_remarks_cells : (Nat → Int32)) (p1_remarks_rows : Int32) (p1_host : Int32) (p1_rooms : Int32) (p1_night : Int32) (p1_wheels : Int32) (p1_turned : Int32) : va_W := [(a_this, .inr (4, [.ref a_answers])), (a_answers, .inl (cI, 6, .inl answers)), (a_p1, .inr (0, [.ref a_p1_wets, .ref a_p1_guests, .ref a_p1_sights, .ref a_p1_remarks, .ref a_p1_marks, .ref a_p1_past, .int p1_host, .int p1_rooms, .int p1_night, .int p1_wheels, .int p1_turned])), (a_p1_guests, .inr (3, [.int 4, .int 7, .ref a_p1_guests_cells, .int p1_guests_rows])), (a_p1_guests_cells, .inl (cI, 28, .inl p1_guests_cells)), (a_p1_remarks, .inr (3, [.int 5, .int 6, .ref a_p1_remarks_cells, .int p1_remarks_rows])), (a_p1_remarks_cells, .inl (cI, 30, .inl p1_remarks_cells))]
abbrev rm_X7_bestLook : Room := { frames := 3, cells := 0, slots := 0, locals := 77 }
set_option maxRecDepth 20000 in
theorem inX1_X7_bestLook : ∀ w ∈ u_ws RX1 TX1 11, w ∈ wsX7_bestLook := by decide +kernel
set_option maxRecDepth 20000 in
theorem inX7_X7_bestLook : ∀ w ∈ u_ws RX7 TX7 1, w ∈ wsX7_bestLook := by decide +kernel
def f_X7_bestLook_b113 (k_b23 : (Nat → Int32) → Int32 → Int32 → Int32 → Int32 → Int32 → Option (Int32 × (Nat → Int32))) (k_b33 : (Nat → Int32) → Int32 → Int32 → Int32 → Int32 → Int32 → Int32 → Option (Int32 × (Nat → Int32)))  (p1_guests_cells : (Nat → Int32)) (p1_guests_rows : Int32) (p1_remarks_cells : (Nat → Int32)) (p1_remarks_rows : Int32) (answers : (Nat → Int32)) (l2 : Int32) (l3 : Int32) (l4 : Int32) (l5 : Int32) (l6 : Int32) (l7 : Int32) : Option (Int32 × (Nat → Int32)) := k_b33 answers l2 l3 l4 l5 l6 (l7 + (1 : Int32))
set_option maxHeartbeats 4000000 in
set_option maxRecDepth 100000 in
theorem w_X7_bestLook_b113 {p : Program} {l : Launch} {e : Env} {s : State} {m : MethodId} {args : Array Value} {below : List Frame} {meth : Method} {c : Code} {A : Nat → Prop} {Q : State → Prop} {D : va_G} {cI cB cZ : ClassId} {a_this a_answers a_p1 a_p1_wets a_p1_guests a_p1_guests_cells a_p1_sights a_p1_remarks a_p1_remarks_cells a_p1_marks a_p1_past : Nat} {p1_guests_cells : (Nat → Int32)} {p1_guests_rows : Int32} {p1_remarks_cells : (Nat → Int32)} {p1_remarks_rows : Int32} {p1_host : Int32} {p1_rooms : Int32} {p1_night : Int32} {p1_wheels : Int32} {p1_turned : Int32} (C0 : Cx p s m args c cX7_bestLook 10 RX7 wsX7_bestLook D (s_tys cI cB cZ) A) {rv : Int32 × (Nat → Int32)} (hend : ∀ (pc : Nat) (H : Heap) (locs : List Loc) (ls : Array Slot), decode cX7_bestLook pc = .ok (.ireturn, 1) → sS D vwCl A s.heap (wd_X7_bestLook cI cB cZ a_this a_answers a_p1 a_p1_wets a_p1_guests a_p1_guests_cells a_p1_sights a_p1_remarks a_p1_remarks_cells a_p1_marks a_p1_past rv.2 p1_guests_cells p1_guests_rows p1_remarks_cells p1_remarks_rows p1_host p1_rooms p1_night p1_wheels p1_turned) H locs → W p l e rm_X7_bestLook s m args below meth c H locs 0 0 Q (F0 m pc ls [.int rv.1])) (k_b23 : (Nat → Int32) → Int32 → Int32 → Int32 → Int32 → Int32 → Option (Int32 × (Nat → Int32))) (hk_b23 : ∀ (answers : (Nat → Int32)) (l2 : Int32) (l3 : Int32) (l4 : Int32) (l5 : Int32) (l6 : Int32) (H : Heap) (locs : List Loc) (ls : Array Slot), k_b23 answers l2 l3 l4 l5 l6 = some rv → sS D vwCl A s.heap (wd_X7_bestLook cI cB cZ a_this a_answers a_p1 a_p1_wets a_p1_guests a_p1_guests_cells a_p1_sights a_p1_remarks a_p1_remarks_cells a_p1_marks a_p1_past answers p1_guests_cells p1_guests_rows p1_remarks_cells p1_remarks_rows p1_host p1_rooms p1_night p1_wheels p1_turned) H locs → lv_has ls 10 [(0, .ref a_this), (1, .ref a_p1), (2, .int l2), (3, .int l3), (4, .int l4), (5, .int l5), (6, .int l6)] → W p l e rm_X7_bestLook s m args below meth c H locs 0 0 Q (F0 m 23 ls [])) (k_b33 : (Nat → Int32) → Int32 → Int32 → Int32 → Int32 → Int32 → Int32 → Option (Int32 × (Nat → Int32))) (hk_b33 : ∀ (answers : (Nat → Int32)) (l2 : Int32) (l3 : Int32) (l4 : Int32) (l5 : Int32) (l6 : Int32) (l7 : Int32) (H : Heap) (locs : List Loc) (ls : Array Slot), k_b33 answers l2 l3 l4 l5 l6 l7 = some rv → sS D vwCl A s.heap (wd_X7_bestLook cI cB cZ a_this a_answers a_p1 a_p1_wets a_p1_guests a_p1_guests_cells a_p1_sights a_p1_remarks a_p1_remarks_cells a_p1_marks a_p1_past answers p1_guests_cells p1_guests_rows p1_remarks_cells p1_remarks_rows p1_host p1_rooms p1_night p1_wheels p1_turned) H locs → lv_has ls 10 [(0, .ref a_this), (1, .ref a_p1), (2, .int l2), (3, .int l3), (4, .int l4), (5, .int l5), (6, .int l6), (7, .int l7)] → W p l e rm_X7_bestLook s m args below meth c H locs 0 0 Q (F0 m 33 ls [])) : ∀ (answers : (Nat → Int32)) (l2 : Int32) (l3 : Int32) (l4 : Int32) (l5 : Int32) (l6 : Int32) (l7 : Int32) (H : Heap) (locs : List Loc) (ls : Array Slot), f_X7_bestLook_b113 k_b23 k_b33 p1_guests_cells p1_guests_rows p1_remarks_cells p1_remarks_rows answers l2 l3 l4 l5 l6 l7 = some rv → sS D vwCl A s.heap (wd_X7_bestLook cI cB cZ a_this a_answers a_p1 a_p1_wets a_p1_guests a_p1_guests_cells a_p1_sights a_p1_remarks a_p1_remarks_cells a_p1_marks a_p1_past answers p1_guests_cells p1_guests_rows p1_remarks_cells p1_remarks_rows p1_host p1_rooms p1_night p1_wheels p1_turned) H locs → lv_has ls 10 [(0, .ref a_this), (1, .ref a_p1), (2, .int l2), (3, .int l3), (4, .int l4), (5, .int l5), (6, .int l6), (7, .int l7)] → W p l e rm_X7_bestLook s m args below meth c H locs 0 0 Q (F0 m 113 ls []) := by
  obtain ⟨hx, hb, hml, hown, hts, hK, hA⟩ := id C0
  have inX1 : ∀ w ∈ u_ws RX1 TX1 11, w ∈ wsX7_bestLook := inX1_X7_bestLook
  have inX7 : ∀ w ∈ u_ws RX7 TX7 1, w ∈ wsX7_bestLook := inX7_X7_bestLook
  intro answers l2 l3 l4 l5 l6 l7 H locs ls h hS hl
  unfold f_X7_bestLook_b113 at h
  refine lv_iinc (v := (l7 + (1 : Int32))) (lv' := [(7, .int (l7 + (1 : Int32))), (0, .ref a_this), (1, .ref a_p1), (2, .int l2), (3, .int l3), (4, .int l4), (5, .int l5), (6, .int l6)]) hx hb dX7_bestLook_113 hl (k := 7) rfl rfl (by decide) rfl (fun ls hl => ?_)
  refine lv_goto (tgt := 33) hx hb dX7_bestLook_116 (by decide) ?_
  exact hk_b33 answers l2 l3 l4 l5 l6 (l7 + (1 : Int32)) _ _ _ h hS (lv_sub hl [1, 2, 3, 4, 5, 6, 7, 0] rfl)
def f_X7_bestLook_b54 (k_b23 : (Nat → Int32) → Int32 → Int32 → Int32 → Int32 → Int32 → Option (Int32 × (Nat → Int32))) (k_b33 : (Nat → Int32) → Int32 → Int32 → Int32 → Int32 → Int32 → Int32 → Option (Int32 × (Nat → Int32)))  (p1_guests_cells : (Nat → Int32)) (p1_guests_rows : Int32) (p1_remarks_cells : (Nat → Int32)) (p1_remarks_rows : Int32) : Nat → (Nat → Int32) → Int32 → Int32 → Int32 → Int32 → Int32 → Int32 → Int32 → Int32 → Option (Int32 × (Nat → Int32))
  | 0, _, _, _, _, _, _, _, _, _ => none
  | fu + 1, answers, l2, l3, l4, l5, l6, l7, l8, l9 => (if (6 : Int32) ≤ l9 then ((f_X7_mostAlike answers l3).bind fun q2 => (if l5 ≤ q2 then f_X7_bestLook_b113 k_b23 k_b33 p1_guests_cells p1_guests_rows p1_remarks_cells p1_remarks_rows answers l2 l3 l4 l5 l6 l7 else f_X7_bestLook_b113 k_b23 k_b33 p1_guests_cells p1_guests_rows p1_remarks_cells p1_remarks_rows answers l2 l3 (((100 : Int32) * l6) + l7) q2 l6 l7)) else ((f_X2_likely l9 l8 l6 l7).bind fun q4 => (if ¬ (l9 < 0 ∨ 6 ≤ (Int32.toNatClampNeg l9)) then (f_X7_bestLook_b54 k_b23 k_b33 p1_guests_cells p1_guests_rows p1_remarks_cells p1_remarks_rows fu) (upd answers (Int32.toNatClampNeg l9) q4) l2 l3 l4 l5 l6 l7 l8 (l9 + (1 : Int32)) else none)))
set_option maxHeartbeats 4000000 in
set_option maxRecDepth 100000 in
theorem w_X7_bestLook_b54 {p : Program} {l : Launch} {e : Env} {s : State} {m : MethodId} {args : Array Value} {below : List Frame} {meth : Method} {c : Code} {A : Nat → Prop} {Q : State → Prop} {D : va_G} {cI cB cZ : ClassId} {a_this a_answers a_p1 a_p1_wets a_p1_guests a_p1_guests_cells a_p1_sights a_p1_remarks a_p1_remarks_cells a_p1_marks a_p1_past : Nat} {p1_guests_cells : (Nat → Int32)} {p1_guests_rows : Int32} {p1_remarks_cells : (Nat → Int32)} {p1_remarks_rows : Int32} {p1_host : Int32} {p1_rooms : Int32} {p1_night : Int32} {p1_wheels : Int32} {p1_turned : Int32} (C0 : Cx p s m args c cX7_bestLook 10 RX7 wsX7_bestLook D (s_tys cI cB cZ) A) {rv : Int32 × (Nat → Int32)} (hend : ∀ (pc : Nat) (H : Heap) (locs : List Loc) (ls : Array Slot), decode cX7_bestLook pc = .ok (.ireturn, 1) → sS D vwCl A s.heap (wd_X7_bestLook cI cB cZ a_this a_answers a_p1 a_p1_wets a_p1_guests a_p1_guests_cells a_p1_sights a_p1_remarks a_p1_remarks_cells a_p1_marks a_p1_past rv.2 p1_guests_cells p1_guests_rows p1_remarks_cells p1_remarks_rows p1_host p1_rooms p1_night p1_wheels p1_turned) H locs → W p l e rm_X7_bestLook s m args below meth c H locs 0 0 Q (F0 m pc ls [.int rv.1])) (k_b23 : (Nat → Int32) → Int32 → Int32 → Int32 → Int32 → Int32 → Option (Int32 × (Nat → Int32))) (hk_b23 : ∀ (answers : (Nat → Int32)) (l2 : Int32) (l3 : Int32) (l4 : Int32) (l5 : Int32) (l6 : Int32) (H : Heap) (locs : List Loc) (ls : Array Slot), k_b23 answers l2 l3 l4 l5 l6 = some rv → sS D vwCl A s.heap (wd_X7_bestLook cI cB cZ a_this a_answers a_p1 a_p1_wets a_p1_guests a_p1_guests_cells a_p1_sights a_p1_remarks a_p1_remarks_cells a_p1_marks a_p1_past answers p1_guests_cells p1_guests_rows p1_remarks_cells p1_remarks_rows p1_host p1_rooms p1_night p1_wheels p1_turned) H locs → lv_has ls 10 [(0, .ref a_this), (1, .ref a_p1), (2, .int l2), (3, .int l3), (4, .int l4), (5, .int l5), (6, .int l6)] → W p l e rm_X7_bestLook s m args below meth c H locs 0 0 Q (F0 m 23 ls [])) (k_b33 : (Nat → Int32) → Int32 → Int32 → Int32 → Int32 → Int32 → Int32 → Option (Int32 × (Nat → Int32))) (hk_b33 : ∀ (answers : (Nat → Int32)) (l2 : Int32) (l3 : Int32) (l4 : Int32) (l5 : Int32) (l6 : Int32) (l7 : Int32) (H : Heap) (locs : List Loc) (ls : Array Slot), k_b33 answers l2 l3 l4 l5 l6 l7 = some rv → sS D vwCl A s.heap (wd_X7_bestLook cI cB cZ a_this a_answers a_p1 a_p1_wets a_p1_guests a_p1_guests_cells a_p1_sights a_p1_remarks a_p1_remarks_cells a_p1_marks a_p1_past answers p1_guests_cells p1_guests_rows p1_remarks_cells p1_remarks_rows p1_host p1_rooms p1_night p1_wheels p1_turned) H locs → lv_has ls 10 [(0, .ref a_this), (1, .ref a_p1), (2, .int l2), (3, .int l3), (4, .int l4), (5, .int l5), (6, .int l6), (7, .int l7)] → W p l e rm_X7_bestLook s m args below meth c H locs 0 0 Q (F0 m 33 ls [])) : ∀ (fu : Nat) (answers : (Nat → Int32)) (l2 : Int32) (l3 : Int32) (l4 : Int32) (l5 : Int32) (l6 : Int32) (l7 : Int32) (l8 : Int32) (l9 : Int32) (H : Heap) (locs : List Loc) (ls : Array Slot), f_X7_bestLook_b54 k_b23 k_b33 p1_guests_cells p1_guests_rows p1_remarks_cells p1_remarks_rows fu answers l2 l3 l4 l5 l6 l7 l8 l9 = some rv → sS D vwCl A s.heap (wd_X7_bestLook cI cB cZ a_this a_answers a_p1 a_p1_wets a_p1_guests a_p1_guests_cells a_p1_sights a_p1_remarks a_p1_remarks_cells a_p1_marks a_p1_past answers p1_guests_cells p1_guests_rows p1_remarks_cells p1_remarks_rows p1_host p1_rooms p1_night p1_wheels p1_turned) H locs → lv_has ls 10 [(0, .ref a_this), (1, .ref a_p1), (2, .int l2), (3, .int l3), (4, .int l4), (5, .int l5), (6, .int l6), (7, .int l7), (8, .int l8), (9, .int l9)] → W p l e rm_X7_bestLook s m args below meth c H locs 0 0 Q (F0 m 54 ls []) := by
  obtain ⟨hx, hb, hml, hown, hts, hK, hA⟩ := id C0
  have inX1 : ∀ w ∈ u_ws RX1 TX1 11, w ∈ wsX7_bestLook := inX1_X7_bestLook
  have inX7 : ∀ w ∈ u_ws RX7 TX7 1, w ∈ wsX7_bestLook := inX7_X7_bestLook
  intro fu
  induction fu with
  | zero => intro answers l2 l3 l4 l5 l6 l7 l8 l9 H locs ls h; cases h
  | succ fu ih =>
    intro answers l2 l3 l4 l5 l6 l7 l8 l9 H locs ls h hS hl
    rw [f_X7_bestLook_b54] at h
    refine lv_iload hx hb dX7_bestLook_54 (lv_at hl 9 rfl) ?_
    refine lv_bipush (v := (6 : Int32)) hx hb dX7_bestLook_56 (by decide) ?_
    refine lv_icmp_ge (tgt := 85) hx hb dX7_bestLook_58 (by decide) (fun c1 => ?_) (fun c1 => ?_)
    · replace h := s_yes c1 h
      refine lv_aload_n hx hb dX7_bestLook_85 rfl (lv_at hl 0 rfl) ?_
      refine lv_iload_n hx hb dX7_bestLook_86 rfl (lv_at hl 3 rfl) ?_
      obtain ⟨q2, hq2, h⟩ := s_bind h
      refine u_calliV (r := q2) (As := [.int l3]) (rest := []) (wc := (wd_X7_mostAlike cI cB cZ a_this a_answers answers)) hx hb hml hown hts hK hA hl hS (c_X7_mostAlike l D cI cB cZ a_this a_answers answers l3 _ _ hq2) (cwV 1 hts gX7_bestLook_X7_mostAlike rfl rfl rfl (by decide +kernel) ⟨Nat.le_of_ble_eq_true rfl, Nat.le_of_ble_eq_true rfl⟩) 0 rfl rfl [0, 1] rfl rfl rfl rfl (Nat.le_of_ble_eq_true rfl) dX7_bestLook_87 (fun H locs hS => ?_)
      refine lv_istore (lv' := [(9, .int q2), (0, .ref a_this), (1, .ref a_p1), (2, .int l2), (3, .int l3), (4, .int l4), (5, .int l5), (6, .int l6), (7, .int l7), (8, .int l8)]) hx hb dX7_bestLook_90 hl (by decide) rfl (fun ls hl => ?_)
      refine lv_iload hx hb dX7_bestLook_92 (lv_at hl 0 rfl) ?_
      refine lv_iload hx hb dX7_bestLook_94 (lv_at hl 6 rfl) ?_
      refine lv_icmp_ge (tgt := 113) hx hb dX7_bestLook_96 (by decide) (fun c3 => ?_) (fun c3 => ?_)
      · replace h := s_yes c3 h
        exact w_X7_bestLook_b113 C0 hend k_b23 hk_b23 k_b33 hk_b33 answers l2 l3 l4 l5 l6 l7 _ _ _ h hS (lv_sub hl [1, 2, 3, 4, 5, 6, 7, 8] rfl)
      replace h := s_no c3 h
      refine lv_iload hx hb dX7_bestLook_99 (lv_at hl 0 rfl) ?_
      refine lv_istore (lv' := [(5, .int q2), (9, .int q2), (0, .ref a_this), (1, .ref a_p1), (2, .int l2), (3, .int l3), (4, .int l4), (6, .int l6), (7, .int l7), (8, .int l8)]) hx hb dX7_bestLook_101 hl (by decide) rfl (fun ls hl => ?_)
      refine lv_bipush (v := (100 : Int32)) hx hb dX7_bestLook_103 (by decide) ?_
      refine lv_iload hx hb dX7_bestLook_105 (lv_at hl 7 rfl) ?_
      refine lv_imul hx hb dX7_bestLook_107 ?_
      refine lv_iload hx hb dX7_bestLook_108 (lv_at hl 8 rfl) ?_
      refine lv_iadd hx hb dX7_bestLook_110 ?_
      refine lv_istore (lv' := [(4, .int (((100 : Int32) * l6) + l7)), (5, .int q2), (9, .int q2), (0, .ref a_this), (1, .ref a_p1), (2, .int l2), (3, .int l3), (6, .int l6), (7, .int l7), (8, .int l8)]) hx hb dX7_bestLook_111 hl (by decide) rfl (fun ls hl => ?_)
      exact w_X7_bestLook_b113 C0 hend k_b23 hk_b23 k_b33 hk_b33 answers l2 l3 (((100 : Int32) * l6) + l7) q2 l6 l7 _ _ _ h hS (lv_sub hl [3, 4, 5, 6, 0, 1, 7, 8] rfl)
    replace h := s_no c1 h
    refine lv_aload_n hx hb dX7_bestLook_61 rfl (lv_at hl 0 rfl) ?_
    refine s_get (C := RX7) (T := TX7) (N := 1) hx hb hts inX7 hown hK hS 0 rfl rfl 0 (by decide) (hts (.fieldLink RX7 9 "InnTurned$Wits" "answers" "[I") (List.mem_of_getElem? (i := 1) rfl)) rfl rfl dX7_bestLook_62 ?_
    refine lv_iload hx hb dX7_bestLook_65 (lv_at hl 9 rfl) ?_
    refine lv_iload hx hb dX7_bestLook_67 (lv_at hl 9 rfl) ?_
    refine lv_iload hx hb dX7_bestLook_69 (lv_at hl 8 rfl) ?_
    refine lv_iload hx hb dX7_bestLook_71 (lv_at hl 6 rfl) ?_
    refine lv_iload hx hb dX7_bestLook_73 (lv_at hl 7 rfl) ?_
    obtain ⟨q4, hq4, h⟩ := s_bind h
    refine u_calliS (r := q4) (As := [.int l9, .int l8, .int l6, .int l7]) (rest := [.int l9, .ref a_answers]) (wc := ([] : va_W)) hx hb hml hown hts hK hA hl hS (c_X2_likely l D cI cB cZ l9 l8 l6 l7 _ _ hq4) (va_cwS 4 hts gX7_bestLook_X2_likely rfl rfl rfl (by decide +kernel) ⟨Nat.le_of_ble_eq_true rfl, Nat.le_of_ble_eq_true rfl⟩) [] rfl rfl rfl rfl (Nat.le_of_ble_eq_true rfl) dX7_bestLook_75 (fun H locs hS => ?_)
    obtain ⟨g5, h⟩ := s_guard h
    refine s_iast (ws' := (wd_X7_bestLook cI cB cZ a_this a_answers a_p1 a_p1_wets a_p1_guests a_p1_guests_cells a_p1_sights a_p1_remarks a_p1_remarks_cells a_p1_marks a_p1_past (upd answers (Int32.toNatClampNeg l9) q4) p1_guests_cells p1_guests_rows p1_remarks_cells p1_remarks_rows p1_host p1_rooms p1_night p1_wheels p1_turned)) hx hb hK hS 1 rfl rfl g5 rfl dX7_bestLook_78 (fun H locs hS => ?_)
    refine lv_iinc (v := (l9 + (1 : Int32))) (lv' := [(9, .int (l9 + (1 : Int32))), (0, .ref a_this), (1, .ref a_p1), (2, .int l2), (3, .int l3), (4, .int l4), (5, .int l5), (6, .int l6), (7, .int l7), (8, .int l8)]) hx hb dX7_bestLook_79 hl (k := 9) rfl rfl (by decide) rfl (fun ls hl => ?_)
    refine lv_goto (tgt := 54) hx hb dX7_bestLook_82 (by decide) ?_
    exact ih (upd answers (Int32.toNatClampNeg l9) q4) l2 l3 l4 l5 l6 l7 l8 (l9 + (1 : Int32)) _ _ _ h hS (lv_sub hl [1, 2, 3, 4, 5, 6, 7, 8, 9, 0] rfl)
def f_X7_bestLook_b33 (k_b23 : (Nat → Int32) → Int32 → Int32 → Int32 → Int32 → Int32 → Option (Int32 × (Nat → Int32)))  (p1_guests_cells : (Nat → Int32)) (p1_guests_rows : Int32) (p1_remarks_cells : (Nat → Int32)) (p1_remarks_rows : Int32) : Nat → (Nat → Int32) → Int32 → Int32 → Int32 → Int32 → Int32 → Int32 → Option (Int32 × (Nat → Int32))
  | 0, _, _, _, _, _, _, _ => none
  | fu + 1, answers, l2, l3, l4, l5, l6, l7 => (if (7 : Int32) ≤ l7 then k_b23 answers l2 l3 l4 l5 (l6 + (1 : Int32)) else ((f_X5_cell 28 (4 : Int32) p1_guests_cells p1_guests_rows l2 (1 : Int32)).bind fun q7 => f_X7_bestLook_b54 k_b23 (f_X7_bestLook_b33 k_b23 p1_guests_cells p1_guests_rows p1_remarks_cells p1_remarks_rows fu) p1_guests_cells p1_guests_rows p1_remarks_cells p1_remarks_rows s_fuel answers l2 l3 l4 l5 l6 l7 q7 (0 : Int32)))
set_option maxHeartbeats 4000000 in
set_option maxRecDepth 100000 in
theorem w_X7_bestLook_b33 {p : Program} {l : Launch} {e : Env} {s : State} {m : MethodId} {args : Array Value} {below : List Frame} {meth : Method} {c : Code} {A : Nat → Prop} {Q : State → Prop} {D : va_G} {cI cB cZ : ClassId} {a_this a_answers a_p1 a_p1_wets a_p1_guests a_p1_guests_cells a_p1_sights a_p1_remarks a_p1_remarks_cells a_p1_marks a_p1_past : Nat} {p1_guests_cells : (Nat → Int32)} {p1_guests_rows : Int32} {p1_remarks_cells : (Nat → Int32)} {p1_remarks_rows : Int32} {p1_host : Int32} {p1_rooms : Int32} {p1_night : Int32} {p1_wheels : Int32} {p1_turned : Int32} (C0 : Cx p s m args c cX7_bestLook 10 RX7 wsX7_bestLook D (s_tys cI cB cZ) A) {rv : Int32 × (Nat → Int32)} (hend : ∀ (pc : Nat) (H : Heap) (locs : List Loc) (ls : Array Slot), decode cX7_bestLook pc = .ok (.ireturn, 1) → sS D vwCl A s.heap (wd_X7_bestLook cI cB cZ a_this a_answers a_p1 a_p1_wets a_p1_guests a_p1_guests_cells a_p1_sights a_p1_remarks a_p1_remarks_cells a_p1_marks a_p1_past rv.2 p1_guests_cells p1_guests_rows p1_remarks_cells p1_remarks_rows p1_host p1_rooms p1_night p1_wheels p1_turned) H locs → W p l e rm_X7_bestLook s m args below meth c H locs 0 0 Q (F0 m pc ls [.int rv.1])) (k_b23 : (Nat → Int32) → Int32 → Int32 → Int32 → Int32 → Int32 → Option (Int32 × (Nat → Int32))) (hk_b23 : ∀ (answers : (Nat → Int32)) (l2 : Int32) (l3 : Int32) (l4 : Int32) (l5 : Int32) (l6 : Int32) (H : Heap) (locs : List Loc) (ls : Array Slot), k_b23 answers l2 l3 l4 l5 l6 = some rv → sS D vwCl A s.heap (wd_X7_bestLook cI cB cZ a_this a_answers a_p1 a_p1_wets a_p1_guests a_p1_guests_cells a_p1_sights a_p1_remarks a_p1_remarks_cells a_p1_marks a_p1_past answers p1_guests_cells p1_guests_rows p1_remarks_cells p1_remarks_rows p1_host p1_rooms p1_night p1_wheels p1_turned) H locs → lv_has ls 10 [(0, .ref a_this), (1, .ref a_p1), (2, .int l2), (3, .int l3), (4, .int l4), (5, .int l5), (6, .int l6)] → W p l e rm_X7_bestLook s m args below meth c H locs 0 0 Q (F0 m 23 ls [])) : ∀ (fu : Nat) (answers : (Nat → Int32)) (l2 : Int32) (l3 : Int32) (l4 : Int32) (l5 : Int32) (l6 : Int32) (l7 : Int32) (H : Heap) (locs : List Loc) (ls : Array Slot), f_X7_bestLook_b33 k_b23 p1_guests_cells p1_guests_rows p1_remarks_cells p1_remarks_rows fu answers l2 l3 l4 l5 l6 l7 = some rv → sS D vwCl A s.heap (wd_X7_bestLook cI cB cZ a_this a_answers a_p1 a_p1_wets a_p1_guests a_p1_guests_cells a_p1_sights a_p1_remarks a_p1_remarks_cells a_p1_marks a_p1_past answers p1_guests_cells p1_guests_rows p1_remarks_cells p1_remarks_rows p1_host p1_rooms p1_night p1_wheels p1_turned) H locs → lv_has ls 10 [(0, .ref a_this), (1, .ref a_p1), (2, .int l2), (3, .int l3), (4, .int l4), (5, .int l5), (6, .int l6), (7, .int l7)] → W p l e rm_X7_bestLook s m args below meth c H locs 0 0 Q (F0 m 33 ls []) := by
  obtain ⟨hx, hb, hml, hown, hts, hK, hA⟩ := id C0
  have inX1 : ∀ w ∈ u_ws RX1 TX1 11, w ∈ wsX7_bestLook := inX1_X7_bestLook
  have inX7 : ∀ w ∈ u_ws RX7 TX7 1, w ∈ wsX7_bestLook := inX7_X7_bestLook
  intro fu
  induction fu with
  | zero => intro answers l2 l3 l4 l5 l6 l7 H locs ls h; cases h
  | succ fu ih =>
    intro answers l2 l3 l4 l5 l6 l7 H locs ls h hS hl
    rw [f_X7_bestLook_b33] at h
    refine lv_iload hx hb dX7_bestLook_33 (lv_at hl 7 rfl) ?_
    refine lv_bipush (v := (7 : Int32)) hx hb dX7_bestLook_35 (by decide) ?_
    refine lv_icmp_ge (tgt := 119) hx hb dX7_bestLook_37 (by decide) (fun c6 => ?_) (fun c6 => ?_)
    · replace h := s_yes c6 h
      refine lv_iinc (v := (l6 + (1 : Int32))) (lv' := [(6, .int (l6 + (1 : Int32))), (0, .ref a_this), (1, .ref a_p1), (2, .int l2), (3, .int l3), (4, .int l4), (5, .int l5), (7, .int l7)]) hx hb dX7_bestLook_119 hl (k := 6) rfl rfl (by decide) rfl (fun ls hl => ?_)
      refine lv_goto (tgt := 23) hx hb dX7_bestLook_122 (by decide) ?_
      exact hk_b23 answers l2 l3 l4 l5 (l6 + (1 : Int32)) _ _ _ h hS (lv_sub hl [1, 2, 3, 4, 5, 6, 0] rfl)
    replace h := s_no c6 h
    refine lv_aload_n hx hb dX7_bestLook_40 rfl (lv_at hl 1 rfl) ?_
    refine s_getN (C := RX1) (T := TX1) (N := 11) hx hb hts inX1 hown hK hS 2 rfl rfl 1 (by decide) 9 rfl rfl rfl dX7_bestLook_41 ?_
    refine lv_iload_n hx hb dX7_bestLook_44 rfl (lv_at hl 2 rfl) ?_
    refine lv_iconst (v := (1 : Int32)) hx hb dX7_bestLook_45 (by decide) ?_
    obtain ⟨q7, hq7, h⟩ := s_bind h
    refine u_calliV (r := q7) (As := [.int l2, .int (1 : Int32)]) (rest := []) (wc := (wd_X5_cell cI cB cZ a_p1_guests a_p1_guests_cells 28 (4 : Int32) (7 : Int32) p1_guests_cells p1_guests_rows)) hx hb hml hown hts hK hA hl hS (c_X5_cell l D cI cB cZ a_p1_guests a_p1_guests_cells 28 (4 : Int32) (7 : Int32) p1_guests_cells p1_guests_rows l2 (1 : Int32) _ _ hq7) (cwV 2 hts gX7_bestLook_X5_cell rfl rfl rfl (by decide +kernel) ⟨Nat.le_of_ble_eq_true rfl, Nat.le_of_ble_eq_true rfl⟩) 3 rfl rfl [3, 4] rfl rfl rfl rfl (Nat.le_of_ble_eq_true rfl) dX7_bestLook_46 (fun H locs hS => ?_)
    refine lv_istore (lv' := [(8, .int q7), (0, .ref a_this), (1, .ref a_p1), (2, .int l2), (3, .int l3), (4, .int l4), (5, .int l5), (6, .int l6), (7, .int l7)]) hx hb dX7_bestLook_49 hl (by decide) rfl (fun ls hl => ?_)
    refine lv_iconst (v := (0 : Int32)) hx hb dX7_bestLook_51 (by decide) ?_
    refine lv_istore (lv' := [(9, .int (0 : Int32)), (8, .int q7), (0, .ref a_this), (1, .ref a_p1), (2, .int l2), (3, .int l3), (4, .int l4), (5, .int l5), (6, .int l6), (7, .int l7)]) hx hb dX7_bestLook_52 hl (by decide) rfl (fun ls hl => ?_)
    exact w_X7_bestLook_b54 C0 hend k_b23 hk_b23 (f_X7_bestLook_b33 k_b23 p1_guests_cells p1_guests_rows p1_remarks_cells p1_remarks_rows fu) ih s_fuel answers l2 l3 l4 l5 l6 l7 q7 (0 : Int32) _ _ _ h hS (lv_sub hl [2, 3, 4, 5, 6, 7, 8, 9, 1, 0] rfl)
def f_X7_bestLook_b23  (p1_guests_cells : (Nat → Int32)) (p1_guests_rows : Int32) (p1_remarks_cells : (Nat → Int32)) (p1_remarks_rows : Int32) : Nat → (Nat → Int32) → Int32 → Int32 → Int32 → Int32 → Int32 → Option (Int32 × (Nat → Int32))
  | 0, _, _, _, _, _, _ => none
  | fu + 1, answers, l2, l3, l4, l5, l6 => (if (9 : Int32) < l6 then some (l4, answers) else f_X7_bestLook_b33 (f_X7_bestLook_b23 p1_guests_cells p1_guests_rows p1_remarks_cells p1_remarks_rows fu) p1_guests_cells p1_guests_rows p1_remarks_cells p1_remarks_rows s_fuel answers l2 l3 l4 l5 l6 (0 : Int32))
set_option maxHeartbeats 4000000 in
set_option maxRecDepth 100000 in
theorem w_X7_bestLook_b23 {p : Program} {l : Launch} {e : Env} {s : State} {m : MethodId} {args : Array Value} {below : List Frame} {meth : Method} {c : Code} {A : Nat → Prop} {Q : State → Prop} {D : va_G} {cI cB cZ : ClassId} {a_this a_answers a_p1 a_p1_wets a_p1_guests a_p1_guests_cells a_p1_sights a_p1_remarks a_p1_remarks_cells a_p1_marks a_p1_past : Nat} {p1_guests_cells : (Nat → Int32)} {p1_guests_rows : Int32} {p1_remarks_cells : (Nat → Int32)} {p1_remarks_rows : Int32} {p1_host : Int32} {p1_rooms : Int32} {p1_night : Int32} {p1_wheels : Int32} {p1_turned : Int32} (C0 : Cx p s m args c cX7_bestLook 10 RX7 wsX7_bestLook D (s_tys cI cB cZ) A) {rv : Int32 × (Nat → Int32)} (hend : ∀ (pc : Nat) (H : Heap) (locs : List Loc) (ls : Array Slot), decode cX7_bestLook pc = .ok (.ireturn, 1) → sS D vwCl A s.heap (wd_X7_bestLook cI cB cZ a_this a_answers a_p1 a_p1_wets a_p1_guests a_p1_guests_cells a_p1_sights a_p1_remarks a_p1_remarks_cells a_p1_marks a_p1_past rv.2 p1_guests_cells p1_guests_rows p1_remarks_cells p1_remarks_rows p1_host p1_rooms p1_night p1_wheels p1_turned) H locs → W p l e rm_X7_bestLook s m args below meth c H locs 0 0 Q (F0 m pc ls [.int rv.1])) : ∀ (fu : Nat) (answers : (Nat → Int32)) (l2 : Int32) (l3 : Int32) (l4 : Int32) (l5 : Int32) (l6 : Int32) (H : Heap) (locs : List Loc) (ls : Array Slot), f_X7_bestLook_b23 p1_guests_cells p1_guests_rows p1_remarks_cells p1_remarks_rows fu answers l2 l3 l4 l5 l6 = some rv → sS D vwCl A s.heap (wd_X7_bestLook cI cB cZ a_this a_answers a_p1 a_p1_wets a_p1_guests a_p1_guests_cells a_p1_sights a_p1_remarks a_p1_remarks_cells a_p1_marks a_p1_past answers p1_guests_cells p1_guests_rows p1_remarks_cells p1_remarks_rows p1_host p1_rooms p1_night p1_wheels p1_turned) H locs → lv_has ls 10 [(0, .ref a_this), (1, .ref a_p1), (2, .int l2), (3, .int l3), (4, .int l4), (5, .int l5), (6, .int l6)] → W p l e rm_X7_bestLook s m args below meth c H locs 0 0 Q (F0 m 23 ls []) := by
  obtain ⟨hx, hb, hml, hown, hts, hK, hA⟩ := id C0
  have inX1 : ∀ w ∈ u_ws RX1 TX1 11, w ∈ wsX7_bestLook := inX1_X7_bestLook
  have inX7 : ∀ w ∈ u_ws RX7 TX7 1, w ∈ wsX7_bestLook := inX7_X7_bestLook
  intro fu
  induction fu with
  | zero => intro answers l2 l3 l4 l5 l6 H locs ls h; cases h
  | succ fu ih =>
    intro answers l2 l3 l4 l5 l6 H locs ls h hS hl
    rw [f_X7_bestLook_b23] at h
    refine lv_iload hx hb dX7_bestLook_23 (lv_at hl 6 rfl) ?_
    refine lv_bipush (v := (9 : Int32)) hx hb dX7_bestLook_25 (by decide) ?_
    refine lv_icmp_gt (tgt := 125) hx hb dX7_bestLook_27 (by decide) (fun c8 => ?_) (fun c8 => ?_)
    · replace h := s_yes c8 h
      refine lv_iload hx hb dX7_bestLook_125 (lv_at hl 4 rfl) ?_
      obtain rfl := Option.some.inj h
      exact hend _ _ _ _ dX7_bestLook_127 hS
    replace h := s_no c8 h
    refine lv_iconst (v := (0 : Int32)) hx hb dX7_bestLook_30 (by decide) ?_
    refine lv_istore (lv' := [(7, .int (0 : Int32)), (0, .ref a_this), (1, .ref a_p1), (2, .int l2), (3, .int l3), (4, .int l4), (5, .int l5), (6, .int l6)]) hx hb dX7_bestLook_31 hl (by decide) rfl (fun ls hl => ?_)
    exact w_X7_bestLook_b33 C0 hend (f_X7_bestLook_b23 p1_guests_cells p1_guests_rows p1_remarks_cells p1_remarks_rows fu) ih s_fuel answers l2 l3 l4 l5 l6 (0 : Int32) _ _ _ h hS (lv_sub hl [1, 2, 3, 4, 5, 6, 7, 0] rfl)
def f_X7_bestLook  (p1_guests_cells : (Nat → Int32)) (p1_guests_rows : Int32) (p1_remarks_cells : (Nat → Int32)) (p1_remarks_rows : Int32) (answers : (Nat → Int32)) (p2 : Int32) : Option (Int32 × (Nat → Int32)) := ((f_X7_guestKinds p1_remarks_cells p1_remarks_rows p2).bind fun q9 => (if q9 = 0 then some ((-1 : Int32), answers) else f_X7_bestLook_b23  p1_guests_cells p1_guests_rows p1_remarks_cells p1_remarks_rows s_fuel answers p2 q9 (-1 : Int32) (7 : Int32) (0 : Int32)))
set_option maxHeartbeats 4000000 in
set_option maxRecDepth 100000 in
theorem c_X7_bestLook (l : Launch) (D : va_G) (cI cB cZ : ClassId) (a_this : Nat) (a_answers : Nat) (a_p1 : Nat) (a_p1_wets : Nat) (a_p1_guests : Nat) (a_p1_guests_cells : Nat) (a_p1_sights : Nat) (a_p1_remarks : Nat) (a_p1_remarks_cells : Nat) (a_p1_marks : Nat) (a_p1_past : Nat) (answers : (Nat → Int32)) (p1_guests_cells : (Nat → Int32)) (p1_guests_rows : Int32) (p1_remarks_cells : (Nat → Int32)) (p1_remarks_rows : Int32) (p1_host : Int32) (p1_rooms : Int32) (p1_night : Int32) (p1_wheels : Int32) (p1_turned : Int32) (p2 : Int32) (rv : Int32 × (Nat → Int32)) (sz : Nat) (hf : f_X7_bestLook p1_guests_cells p1_guests_rows p1_remarks_cells p1_remarks_rows answers p2 = some rv) : Met l yX7_bestLook wsX7_bestLook rm_X7_bestLook (sPc D vwCl (s_tys cI cB cZ) [.ref a_this, .ref a_p1, .int p2] (wd_X7_bestLook cI cB cZ a_this a_answers a_p1 a_p1_wets a_p1_guests a_p1_guests_cells a_p1_sights a_p1_remarks a_p1_remarks_cells a_p1_marks a_p1_past answers p1_guests_cells p1_guests_rows p1_remarks_cells p1_remarks_rows p1_host p1_rooms p1_night p1_wheels p1_turned) sz) (sQi D vwCl (wd_X7_bestLook cI cB cZ a_this a_answers a_p1 a_p1_wets a_p1_guests a_p1_guests_cells a_p1_sights a_p1_remarks a_p1_remarks_cells a_p1_marks a_p1_past answers p1_guests_cells p1_guests_rows p1_remarks_cells p1_remarks_rows p1_host p1_rooms p1_night p1_wheels p1_turned) (wd_X7_bestLook cI cB cZ a_this a_answers a_p1 a_p1_wets a_p1_guests a_p1_guests_cells a_p1_sights a_p1_remarks a_p1_remarks_cells a_p1_marks a_p1_past rv.2 p1_guests_cells p1_guests_rows p1_remarks_cells p1_remarks_rows p1_host p1_rooms p1_night p1_wheels p1_turned) sz rv.1) 0 0 (va_A (wd_X7_bestLook cI cB cZ a_this a_answers a_p1 a_p1_wets a_p1_guests a_p1_guests_cells a_p1_sights a_p1_remarks a_p1_remarks_cells a_p1_marks a_p1_past answers p1_guests_cells p1_guests_rows p1_remarks_cells p1_remarks_rows p1_host p1_rooms p1_night p1_wheels p1_turned) sz) := by
  refine s_enter_n (cc := cX7_bestLook) (nL := 10) (r := rv.1) (by decide) rfl (Nat.le_of_ble_eq_true rfl) ?_
  intro p e s m args below meth c A Q C0 hend ls hl hS
  have h := hf
  clear hf
  replace hl : lv_has ls 10 [(0, .ref a_this), (1, .ref a_p1), (2, .int p2)] := hl
  unfold f_X7_bestLook at h
  obtain ⟨hx, hb, hml, hown, hts, hK, hA⟩ := id C0
  have inX1 : ∀ w ∈ u_ws RX1 TX1 11, w ∈ wsX7_bestLook := inX1_X7_bestLook
  have inX7 : ∀ w ∈ u_ws RX7 TX7 1, w ∈ wsX7_bestLook := inX7_X7_bestLook
  refine lv_aload_n hx hb dX7_bestLook_0 rfl (lv_at hl 0 rfl) ?_
  refine lv_aload_n hx hb dX7_bestLook_1 rfl (lv_at hl 1 rfl) ?_
  refine lv_iload_n hx hb dX7_bestLook_2 rfl (lv_at hl 2 rfl) ?_
  obtain ⟨q9, hq9, h⟩ := s_bind h
  refine u_calliV (r := q9) (As := [.ref a_p1, .int p2]) (rest := []) (wc := (wd_X7_guestKinds cI cB cZ a_this a_answers a_p1 a_p1_wets a_p1_guests a_p1_sights a_p1_remarks a_p1_remarks_cells a_p1_marks a_p1_past p1_remarks_cells p1_remarks_rows p1_host p1_rooms p1_night p1_wheels p1_turned)) hx hb hml hown hts hK hA hl hS (c_X7_guestKinds l D cI cB cZ a_this a_answers a_p1 a_p1_wets a_p1_guests a_p1_sights a_p1_remarks a_p1_remarks_cells a_p1_marks a_p1_past p1_remarks_cells p1_remarks_rows p1_host p1_rooms p1_night p1_wheels p1_turned p2 _ _ hq9) (cwV 2 hts gX7_bestLook_X7_guestKinds rfl rfl rfl (by decide +kernel) ⟨Nat.le_of_ble_eq_true rfl, Nat.le_of_ble_eq_true rfl⟩) 0 rfl rfl [0, 2, 5, 6] rfl rfl rfl rfl (Nat.le_of_ble_eq_true rfl) dX7_bestLook_3 (fun H locs hS => ?_)
  refine lv_istore_n (lv' := [(3, .int q9), (0, .ref a_this), (1, .ref a_p1), (2, .int p2)]) hx hb dX7_bestLook_6 rfl hl (by decide) rfl (fun ls hl => ?_)
  refine lv_iconst (v := (-1 : Int32)) hx hb dX7_bestLook_7 (by decide) ?_
  refine lv_istore (lv' := [(4, .int (-1 : Int32)), (3, .int q9), (0, .ref a_this), (1, .ref a_p1), (2, .int p2)]) hx hb dX7_bestLook_8 hl (by decide) rfl (fun ls hl => ?_)
  refine lv_bipush (v := (7 : Int32)) hx hb dX7_bestLook_10 (by decide) ?_
  refine lv_istore (lv' := [(5, .int (7 : Int32)), (4, .int (-1 : Int32)), (3, .int q9), (0, .ref a_this), (1, .ref a_p1), (2, .int p2)]) hx hb dX7_bestLook_12 hl (by decide) rfl (fun ls hl => ?_)
  refine lv_iload_n hx hb dX7_bestLook_14 rfl (lv_at hl 2 rfl) ?_
  refine lv_if_ne (tgt := 20) hx hb dX7_bestLook_15 (by decide) (fun c10 => ?_) (fun c10 => ?_)
  · replace h := s_no c10 h
    refine lv_iconst (v := (0 : Int32)) hx hb dX7_bestLook_20 (by decide) ?_
    refine lv_istore (lv' := [(6, .int (0 : Int32)), (5, .int (7 : Int32)), (4, .int (-1 : Int32)), (3, .int q9), (0, .ref a_this), (1, .ref a_p1), (2, .int p2)]) hx hb dX7_bestLook_21 hl (by decide) rfl (fun ls hl => ?_)
    exact w_X7_bestLook_b23 C0 hend  s_fuel answers p2 q9 (-1 : Int32) (7 : Int32) (0 : Int32) _ _ _ h hS (lv_sub hl [4, 5, 6, 3, 2, 1, 0] rfl)
  replace h := s_yes c10 h
  refine lv_iconst (v := (-1 : Int32)) hx hb dX7_bestLook_18 (by decide) ?_
  obtain rfl := Option.some.inj h
  exact hend _ _ _ _ dX7_bestLook_19 hS

-- InnTurned$Wits.fitsMarks(LInnTurned$Table;I)Z
def wd_X7_fitsMarks (cI cB cZ : ClassId) (a_this : Nat) (a_p1 : Nat) (a_p1_cells : Nat) (n_p1_cells : Nat) (p1_width : Int32) (p1_most : Int32) (p1_cells : (Nat → Int32)) (p1_rows : Int32) : va_W := [(a_p1, .inr (3, [.int p1_width, .int p1_most, .ref a_p1_cells, .int p1_rows])), (a_p1_cells, .inl (cI, n_p1_cells, .inl p1_cells))]
abbrev rm_X7_fitsMarks : Room := { frames := 1, cells := 0, slots := 0, locals := 25 }
set_option maxRecDepth 20000 in
theorem inX5_X7_fitsMarks : ∀ w ∈ u_ws RX5 TX5 4, w ∈ wsX7_fitsMarks := by decide +kernel
def f_X7_fitsMarks_b2 (n_p1_cells : Nat) (p1_width : Int32) (p1_cells : (Nat → Int32)) (p1_rows : Int32) : Nat → Int32 → Int32 → Option (Int32)
  | 0, _, _ => none
  | fu + 1, l2, l3 => (if p1_rows ≤ l3 then some ((1 : Int32)) else ((f_X5_cell n_p1_cells p1_width p1_cells p1_rows l3 (0 : Int32)).bind fun q2 => ((f_X5_cell n_p1_cells p1_width p1_cells p1_rows l3 (1 : Int32)).bind fun q3 => ((f_X2_letsPass l2 q2 q3).bind fun q4 => ((f_X5_cell n_p1_cells p1_width p1_cells p1_rows l3 (2 : Int32)).bind fun q5 => (if q4 = q5 then (f_X7_fitsMarks_b2 n_p1_cells p1_width p1_cells p1_rows fu) l2 (l3 + (1 : Int32)) else some ((0 : Int32))))))))
set_option maxHeartbeats 4000000 in
set_option maxRecDepth 100000 in
theorem w_X7_fitsMarks_b2 {p : Program} {l : Launch} {e : Env} {s : State} {m : MethodId} {args : Array Value} {below : List Frame} {meth : Method} {c : Code} {A : Nat → Prop} {Q : State → Prop} {D : va_G} {cI cB cZ : ClassId} {a_this a_p1 a_p1_cells : Nat} {n_p1_cells : Nat} {p1_width : Int32} {p1_most : Int32} {p1_cells : (Nat → Int32)} {p1_rows : Int32} (C0 : Cx p s m args c cX7_fitsMarks 6 RX7 wsX7_fitsMarks D (s_tys cI cB cZ) A) {rv : Int32} (hend : ∀ (pc : Nat) (H : Heap) (locs : List Loc) (ls : Array Slot), decode cX7_fitsMarks pc = .ok (.ireturn, 1) → (rv = 0 ∨ rv = 1) → sS D vwCl A s.heap (wd_X7_fitsMarks cI cB cZ a_this a_p1 a_p1_cells n_p1_cells p1_width p1_most p1_cells p1_rows) H locs → W p l e rm_X7_fitsMarks s m args below meth c H locs 0 0 Q (F0 m pc ls [.int rv])) : ∀ (fu : Nat)  (l2 : Int32) (l3 : Int32) (H : Heap) (locs : List Loc) (ls : Array Slot), f_X7_fitsMarks_b2 n_p1_cells p1_width p1_cells p1_rows fu l2 l3 = some rv → sS D vwCl A s.heap (wd_X7_fitsMarks cI cB cZ a_this a_p1 a_p1_cells n_p1_cells p1_width p1_most p1_cells p1_rows) H locs → lv_has ls 6 [(1, .ref a_p1), (2, .int l2), (3, .int l3)] → W p l e rm_X7_fitsMarks s m args below meth c H locs 0 0 Q (F0 m 2 ls []) := by
  obtain ⟨hx, hb, hml, hown, hts, hK, hA⟩ := id C0
  have inX5 : ∀ w ∈ u_ws RX5 TX5 4, w ∈ wsX7_fitsMarks := inX5_X7_fitsMarks
  intro fu
  induction fu with
  | zero => intro l2 l3 H locs ls h; cases h
  | succ fu ih =>
    intro l2 l3 H locs ls h hS hl
    rw [f_X7_fitsMarks_b2] at h
    refine lv_iload_n hx hb dX7_fitsMarks_2 rfl (lv_at hl 2 rfl) ?_
    refine lv_aload_n hx hb dX7_fitsMarks_3 rfl (lv_at hl 0 rfl) ?_
    refine s_getN (C := RX5) (T := TX5) (N := 4) hx hb hts inX5 hown hK hS 0 rfl rfl 3 (by decide) 5 rfl rfl rfl dX7_fitsMarks_4 ?_
    refine lv_icmp_ge (tgt := 51) hx hb dX7_fitsMarks_7 (by decide) (fun c1 => ?_) (fun c1 => ?_)
    · replace h := s_yes c1 h
      refine lv_iconst (v := (1 : Int32)) hx hb dX7_fitsMarks_51 (by decide) ?_
      obtain rfl := Option.some.inj h
      exact hend _ _ _ _ dX7_fitsMarks_52 (Or.inr rfl) hS
    replace h := s_no c1 h
    refine lv_aload_n hx hb dX7_fitsMarks_10 rfl (lv_at hl 0 rfl) ?_
    refine lv_iload_n hx hb dX7_fitsMarks_11 rfl (lv_at hl 2 rfl) ?_
    refine lv_iconst (v := (0 : Int32)) hx hb dX7_fitsMarks_12 (by decide) ?_
    obtain ⟨q2, hq2, h⟩ := s_bind h
    refine u_calliV (r := q2) (As := [.int l3, .int (0 : Int32)]) (rest := []) (wc := (wd_X5_cell cI cB cZ a_p1 a_p1_cells n_p1_cells p1_width p1_most p1_cells p1_rows)) hx hb hml hown hts hK hA hl hS (c_X5_cell l D cI cB cZ a_p1 a_p1_cells n_p1_cells p1_width p1_most p1_cells p1_rows l3 (0 : Int32) _ _ hq2) (cwV 2 hts gX7_fitsMarks_X5_cell rfl rfl rfl (by decide +kernel) ⟨Nat.le_of_ble_eq_true rfl, Nat.le_of_ble_eq_true rfl⟩) 0 rfl rfl [0, 1] rfl rfl rfl rfl (Nat.le_of_ble_eq_true rfl) dX7_fitsMarks_13 (fun H locs hS => ?_)
    refine lv_istore (lv' := [(4, .int q2), (1, .ref a_p1), (2, .int l2), (3, .int l3)]) hx hb dX7_fitsMarks_16 hl (by decide) rfl (fun ls hl => ?_)
    refine lv_aload_n hx hb dX7_fitsMarks_18 rfl (lv_at hl 1 rfl) ?_
    refine lv_iload_n hx hb dX7_fitsMarks_19 rfl (lv_at hl 3 rfl) ?_
    refine lv_iconst (v := (1 : Int32)) hx hb dX7_fitsMarks_20 (by decide) ?_
    obtain ⟨q3, hq3, h⟩ := s_bind h
    refine u_calliV (r := q3) (As := [.int l3, .int (1 : Int32)]) (rest := []) (wc := (wd_X5_cell cI cB cZ a_p1 a_p1_cells n_p1_cells p1_width p1_most p1_cells p1_rows)) hx hb hml hown hts hK hA hl hS (c_X5_cell l D cI cB cZ a_p1 a_p1_cells n_p1_cells p1_width p1_most p1_cells p1_rows l3 (1 : Int32) _ _ hq3) (cwV 2 hts gX7_fitsMarks_X5_cell rfl rfl rfl (by decide +kernel) ⟨Nat.le_of_ble_eq_true rfl, Nat.le_of_ble_eq_true rfl⟩) 0 rfl rfl [0, 1] rfl rfl rfl rfl (Nat.le_of_ble_eq_true rfl) dX7_fitsMarks_21 (fun H locs hS => ?_)
    refine lv_istore (lv' := [(5, .int q3), (4, .int q2), (1, .ref a_p1), (2, .int l2), (3, .int l3)]) hx hb dX7_fitsMarks_24 hl (by decide) rfl (fun ls hl => ?_)
    refine lv_iload_n hx hb dX7_fitsMarks_26 rfl (lv_at hl 3 rfl) ?_
    refine lv_iload hx hb dX7_fitsMarks_27 (lv_at hl 1 rfl) ?_
    refine lv_iload hx hb dX7_fitsMarks_29 (lv_at hl 0 rfl) ?_
    obtain ⟨q4, hq4, h⟩ := s_bind h
    refine u_calliS (r := q4) (As := [.int l2, .int q2, .int q3]) (rest := []) (wc := ([] : va_W)) hx hb hml hown hts hK hA hl hS (c_X2_letsPass l D cI cB cZ l2 q2 q3 _ _ hq4) (va_cwS 3 hts gX7_fitsMarks_X2_letsPass rfl rfl rfl (by decide +kernel) ⟨Nat.le_of_ble_eq_true rfl, Nat.le_of_ble_eq_true rfl⟩) [] rfl rfl rfl rfl (Nat.le_of_ble_eq_true rfl) dX7_fitsMarks_31 (fun H locs hS => ?_)
    refine lv_aload_n hx hb dX7_fitsMarks_34 rfl (lv_at hl 2 rfl) ?_
    refine lv_iload_n hx hb dX7_fitsMarks_35 rfl (lv_at hl 4 rfl) ?_
    refine lv_iconst (v := (2 : Int32)) hx hb dX7_fitsMarks_36 (by decide) ?_
    obtain ⟨q5, hq5, h⟩ := s_bind h
    refine u_calliV (r := q5) (As := [.int l3, .int (2 : Int32)]) (rest := [.int q4]) (wc := (wd_X5_cell cI cB cZ a_p1 a_p1_cells n_p1_cells p1_width p1_most p1_cells p1_rows)) hx hb hml hown hts hK hA hl hS (c_X5_cell l D cI cB cZ a_p1 a_p1_cells n_p1_cells p1_width p1_most p1_cells p1_rows l3 (2 : Int32) _ _ hq5) (cwV 2 hts gX7_fitsMarks_X5_cell rfl rfl rfl (by decide +kernel) ⟨Nat.le_of_ble_eq_true rfl, Nat.le_of_ble_eq_true rfl⟩) 0 rfl rfl [0, 1] rfl rfl rfl rfl (Nat.le_of_ble_eq_true rfl) dX7_fitsMarks_37 (fun H locs hS => ?_)
    refine lv_icmp_eq (tgt := 45) hx hb dX7_fitsMarks_40 (by decide) (fun c6 => ?_) (fun c6 => ?_)
    · replace h := s_yes c6 h
      refine lv_iinc (v := (l3 + (1 : Int32))) (lv' := [(3, .int (l3 + (1 : Int32))), (5, .int q3), (4, .int q2), (1, .ref a_p1), (2, .int l2)]) hx hb dX7_fitsMarks_45 hl (k := 4) rfl rfl (by decide) rfl (fun ls hl => ?_)
      refine lv_goto (tgt := 2) hx hb dX7_fitsMarks_48 (by decide) ?_
      exact ih l2 (l3 + (1 : Int32)) _ _ _ h hS (lv_sub hl [3, 4, 0] rfl)
    replace h := s_no c6 h
    refine lv_iconst (v := (0 : Int32)) hx hb dX7_fitsMarks_43 (by decide) ?_
    obtain rfl := Option.some.inj h
    exact hend _ _ _ _ dX7_fitsMarks_44 (Or.inl rfl) hS
def f_X7_fitsMarks (n_p1_cells : Nat) (p1_width : Int32) (p1_cells : (Nat → Int32)) (p1_rows : Int32)  (p2 : Int32) : Option (Int32) := f_X7_fitsMarks_b2  n_p1_cells p1_width p1_cells p1_rows s_fuel p2 (0 : Int32)
set_option maxHeartbeats 4000000 in
set_option maxRecDepth 100000 in
theorem c_X7_fitsMarks (l : Launch) (D : va_G) (cI cB cZ : ClassId) (a_this : Nat) (a_p1 : Nat) (a_p1_cells : Nat) (n_p1_cells : Nat) (p1_width : Int32) (p1_most : Int32) (p1_cells : (Nat → Int32)) (p1_rows : Int32) (p2 : Int32) (rv : Int32) (sz : Nat) (hf : f_X7_fitsMarks n_p1_cells p1_width p1_cells p1_rows p2 = some rv) : Met l yX7_fitsMarks wsX7_fitsMarks rm_X7_fitsMarks (sPc D vwCl (s_tys cI cB cZ) [.ref a_this, .ref a_p1, .int p2] (wd_X7_fitsMarks cI cB cZ a_this a_p1 a_p1_cells n_p1_cells p1_width p1_most p1_cells p1_rows) sz) (sQi D vwCl (wd_X7_fitsMarks cI cB cZ a_this a_p1 a_p1_cells n_p1_cells p1_width p1_most p1_cells p1_rows) (wd_X7_fitsMarks cI cB cZ a_this a_p1 a_p1_cells n_p1_cells p1_width p1_most p1_cells p1_rows) sz rv) 0 0 (va_A (wd_X7_fitsMarks cI cB cZ a_this a_p1 a_p1_cells n_p1_cells p1_width p1_most p1_cells p1_rows) sz) := by
  refine s_enter_z (cc := cX7_fitsMarks) (nL := 6) (r := rv) (by decide) rfl (Nat.le_of_ble_eq_true rfl) ?_
  intro p e s m args below meth c A Q C0 hend ls hl hS
  have h := hf
  clear hf
  replace hl : lv_has ls 6 [(0, .ref a_this), (1, .ref a_p1), (2, .int p2)] := hl
  unfold f_X7_fitsMarks at h
  obtain ⟨hx, hb, hml, hown, hts, hK, hA⟩ := id C0
  have inX5 : ∀ w ∈ u_ws RX5 TX5 4, w ∈ wsX7_fitsMarks := inX5_X7_fitsMarks
  refine lv_iconst (v := (0 : Int32)) hx hb dX7_fitsMarks_0 (by decide) ?_
  refine lv_istore_n (lv' := [(3, .int (0 : Int32)), (0, .ref a_this), (1, .ref a_p1), (2, .int p2)]) hx hb dX7_fitsMarks_1 rfl hl (by decide) rfl (fun ls hl => ?_)
  exact w_X7_fitsMarks_b2 C0 hend  s_fuel p2 (0 : Int32) _ _ _ h hS (lv_sub hl [2, 3, 0] rfl)

-- InnTurned$Wits.hostKinds(LInnTurned$House;)I
def wd_X7_hostKinds (cI cB cZ : ClassId) (a_this : Nat) (a_answers : Nat) (a_p1 : Nat) (a_p1_wets : Nat) (a_p1_guests : Nat) (a_p1_sights : Nat) (a_p1_remarks : Nat) (a_p1_marks : Nat) (a_p1_marks_cells : Nat) (a_p1_past : Nat)  (p1_marks_cells : (Nat → Int32)) (p1_marks_rows : Int32) (p1_host : Int32) (p1_rooms : Int32) (p1_night : Int32) (p1_wheels : Int32) (p1_turned : Int32) : va_W := [(a_this, .inr (4, [.ref a_answers])), (a_p1, .inr (0, [.ref a_p1_wets, .ref a_p1_guests, .ref a_p1_sights, .ref a_p1_remarks, .ref a_p1_marks, .ref a_p1_past, .int p1_host, .int p1_rooms, .int p1_night, .int p1_wheels, .int p1_turned])), (a_p1_marks, .inr (3, [.int 3, .int 6, .ref a_p1_marks_cells, .int p1_marks_rows])), (a_p1_marks_cells, .inl (cI, 18, .inl p1_marks_cells))]
abbrev rm_X7_hostKinds : Room := { frames := 2, cells := 0, slots := 0, locals := 50 }
set_option maxRecDepth 20000 in
theorem inX1_X7_hostKinds : ∀ w ∈ u_ws RX1 TX1 11, w ∈ wsX7_hostKinds := by decide +kernel
def f_X7_hostKinds_b28 (k_b4 : Int32 → Int32 → Option (Int32))  (p1_marks_cells : (Nat → Int32)) (p1_marks_rows : Int32)  (l2 : Int32) (l3 : Int32) : Option (Int32) := k_b4 l2 (l3 + (1 : Int32))
set_option maxHeartbeats 4000000 in
set_option maxRecDepth 100000 in
theorem w_X7_hostKinds_b28 {p : Program} {l : Launch} {e : Env} {s : State} {m : MethodId} {args : Array Value} {below : List Frame} {meth : Method} {c : Code} {A : Nat → Prop} {Q : State → Prop} {D : va_G} {cI cB cZ : ClassId} {a_this a_answers a_p1 a_p1_wets a_p1_guests a_p1_sights a_p1_remarks a_p1_marks a_p1_marks_cells a_p1_past : Nat} {p1_marks_cells : (Nat → Int32)} {p1_marks_rows : Int32} {p1_host : Int32} {p1_rooms : Int32} {p1_night : Int32} {p1_wheels : Int32} {p1_turned : Int32} (C0 : Cx p s m args c cX7_hostKinds 4 RX7 wsX7_hostKinds D (s_tys cI cB cZ) A) {rv : Int32} (hend : ∀ (pc : Nat) (H : Heap) (locs : List Loc) (ls : Array Slot), decode cX7_hostKinds pc = .ok (.ireturn, 1) → sS D vwCl A s.heap (wd_X7_hostKinds cI cB cZ a_this a_answers a_p1 a_p1_wets a_p1_guests a_p1_sights a_p1_remarks a_p1_marks a_p1_marks_cells a_p1_past p1_marks_cells p1_marks_rows p1_host p1_rooms p1_night p1_wheels p1_turned) H locs → W p l e rm_X7_hostKinds s m args below meth c H locs 0 0 Q (F0 m pc ls [.int rv])) (k_b4 : Int32 → Int32 → Option (Int32)) (hk_b4 : ∀  (l2 : Int32) (l3 : Int32) (H : Heap) (locs : List Loc) (ls : Array Slot), k_b4 l2 l3 = some rv → sS D vwCl A s.heap (wd_X7_hostKinds cI cB cZ a_this a_answers a_p1 a_p1_wets a_p1_guests a_p1_sights a_p1_remarks a_p1_marks a_p1_marks_cells a_p1_past p1_marks_cells p1_marks_rows p1_host p1_rooms p1_night p1_wheels p1_turned) H locs → lv_has ls 4 [(0, .ref a_this), (1, .ref a_p1), (2, .int l2), (3, .int l3)] → W p l e rm_X7_hostKinds s m args below meth c H locs 0 0 Q (F0 m 4 ls [])) : ∀  (l2 : Int32) (l3 : Int32) (H : Heap) (locs : List Loc) (ls : Array Slot), f_X7_hostKinds_b28 k_b4 p1_marks_cells p1_marks_rows l2 l3 = some rv → sS D vwCl A s.heap (wd_X7_hostKinds cI cB cZ a_this a_answers a_p1 a_p1_wets a_p1_guests a_p1_sights a_p1_remarks a_p1_marks a_p1_marks_cells a_p1_past p1_marks_cells p1_marks_rows p1_host p1_rooms p1_night p1_wheels p1_turned) H locs → lv_has ls 4 [(0, .ref a_this), (1, .ref a_p1), (2, .int l2), (3, .int l3)] → W p l e rm_X7_hostKinds s m args below meth c H locs 0 0 Q (F0 m 28 ls []) := by
  obtain ⟨hx, hb, hml, hown, hts, hK, hA⟩ := id C0
  have inX1 : ∀ w ∈ u_ws RX1 TX1 11, w ∈ wsX7_hostKinds := inX1_X7_hostKinds
  intro l2 l3 H locs ls h hS hl
  unfold f_X7_hostKinds_b28 at h
  refine lv_iinc (v := (l3 + (1 : Int32))) (lv' := [(3, .int (l3 + (1 : Int32))), (0, .ref a_this), (1, .ref a_p1), (2, .int l2)]) hx hb dX7_hostKinds_28 hl (k := 3) rfl rfl (by decide) rfl (fun ls hl => ?_)
  refine lv_goto (tgt := 4) hx hb dX7_hostKinds_31 (by decide) ?_
  exact hk_b4 l2 (l3 + (1 : Int32)) _ _ _ h hS (lv_sub hl [1, 2, 3, 0] rfl)
def f_X7_hostKinds_b4  (p1_marks_cells : (Nat → Int32)) (p1_marks_rows : Int32) : Nat → Int32 → Int32 → Option (Int32)
  | 0, _, _ => none
  | fu + 1, l2, l3 => (if (6 : Int32) ≤ l3 then some (l2) else ((f_X7_fitsMarks 18 (3 : Int32) p1_marks_cells p1_marks_rows l3).bind fun q2 => (if q2 = 0 then f_X7_hostKinds_b28 (f_X7_hostKinds_b4 p1_marks_cells p1_marks_rows fu) p1_marks_cells p1_marks_rows l2 l3 else f_X7_hostKinds_b28 (f_X7_hostKinds_b4 p1_marks_cells p1_marks_rows fu) p1_marks_cells p1_marks_rows (l2 ||| ((1 : Int32) <<< (l3 &&& 31))) l3)))
set_option maxHeartbeats 4000000 in
set_option maxRecDepth 100000 in
theorem w_X7_hostKinds_b4 {p : Program} {l : Launch} {e : Env} {s : State} {m : MethodId} {args : Array Value} {below : List Frame} {meth : Method} {c : Code} {A : Nat → Prop} {Q : State → Prop} {D : va_G} {cI cB cZ : ClassId} {a_this a_answers a_p1 a_p1_wets a_p1_guests a_p1_sights a_p1_remarks a_p1_marks a_p1_marks_cells a_p1_past : Nat} {p1_marks_cells : (Nat → Int32)} {p1_marks_rows : Int32} {p1_host : Int32} {p1_rooms : Int32} {p1_night : Int32} {p1_wheels : Int32} {p1_turned : Int32} (C0 : Cx p s m args c cX7_hostKinds 4 RX7 wsX7_hostKinds D (s_tys cI cB cZ) A) {rv : Int32} (hend : ∀ (pc : Nat) (H : Heap) (locs : List Loc) (ls : Array Slot), decode cX7_hostKinds pc = .ok (.ireturn, 1) → sS D vwCl A s.heap (wd_X7_hostKinds cI cB cZ a_this a_answers a_p1 a_p1_wets a_p1_guests a_p1_sights a_p1_remarks a_p1_marks a_p1_marks_cells a_p1_past p1_marks_cells p1_marks_rows p1_host p1_rooms p1_night p1_wheels p1_turned) H locs → W p l e rm_X7_hostKinds s m args below meth c H locs 0 0 Q (F0 m pc ls [.int rv])) : ∀ (fu : Nat)  (l2 : Int32) (l3 : Int32) (H : Heap) (locs : List Loc) (ls : Array Slot), f_X7_hostKinds_b4 p1_marks_cells p1_marks_rows fu l2 l3 = some rv → sS D vwCl A s.heap (wd_X7_hostKinds cI cB cZ a_this a_answers a_p1 a_p1_wets a_p1_guests a_p1_sights a_p1_remarks a_p1_marks a_p1_marks_cells a_p1_past p1_marks_cells p1_marks_rows p1_host p1_rooms p1_night p1_wheels p1_turned) H locs → lv_has ls 4 [(0, .ref a_this), (1, .ref a_p1), (2, .int l2), (3, .int l3)] → W p l e rm_X7_hostKinds s m args below meth c H locs 0 0 Q (F0 m 4 ls []) := by
  obtain ⟨hx, hb, hml, hown, hts, hK, hA⟩ := id C0
  have inX1 : ∀ w ∈ u_ws RX1 TX1 11, w ∈ wsX7_hostKinds := inX1_X7_hostKinds
  intro fu
  induction fu with
  | zero => intro l2 l3 H locs ls h; cases h
  | succ fu ih =>
    intro l2 l3 H locs ls h hS hl
    rw [f_X7_hostKinds_b4] at h
    refine lv_iload_n hx hb dX7_hostKinds_4 rfl (lv_at hl 3 rfl) ?_
    refine lv_bipush (v := (6 : Int32)) hx hb dX7_hostKinds_5 (by decide) ?_
    refine lv_icmp_ge (tgt := 34) hx hb dX7_hostKinds_7 (by decide) (fun c1 => ?_) (fun c1 => ?_)
    · replace h := s_yes c1 h
      refine lv_iload_n hx hb dX7_hostKinds_34 rfl (lv_at hl 2 rfl) ?_
      obtain rfl := Option.some.inj h
      exact hend _ _ _ _ dX7_hostKinds_35 hS
    replace h := s_no c1 h
    refine lv_aload_n hx hb dX7_hostKinds_10 rfl (lv_at hl 0 rfl) ?_
    refine lv_aload_n hx hb dX7_hostKinds_11 rfl (lv_at hl 1 rfl) ?_
    refine s_getN (C := RX1) (T := TX1) (N := 11) hx hb hts inX1 hown hK hS 1 rfl rfl 4 (by decide) 14 rfl rfl rfl dX7_hostKinds_12 ?_
    refine lv_iload_n hx hb dX7_hostKinds_15 rfl (lv_at hl 3 rfl) ?_
    obtain ⟨q2, hq2, h⟩ := s_bind h
    refine u_calliV (r := q2) (As := [.ref a_p1_marks, .int l3]) (rest := []) (wc := (wd_X7_fitsMarks cI cB cZ a_this a_p1_marks a_p1_marks_cells 18 (3 : Int32) (6 : Int32) p1_marks_cells p1_marks_rows)) hx hb hml hown hts hK hA hl hS (c_X7_fitsMarks l D cI cB cZ a_this a_p1_marks a_p1_marks_cells 18 (3 : Int32) (6 : Int32) p1_marks_cells p1_marks_rows l3 _ _ hq2) (cwV 2 hts gX7_hostKinds_X7_fitsMarks rfl rfl rfl (by decide +kernel) ⟨Nat.le_of_ble_eq_true rfl, Nat.le_of_ble_eq_true rfl⟩) 0 rfl rfl [2, 3] rfl rfl rfl rfl (Nat.le_of_ble_eq_true rfl) dX7_hostKinds_16 (fun H locs hS => ?_)
    refine lv_if_eq (tgt := 28) hx hb dX7_hostKinds_19 (by decide) (fun c3 => ?_) (fun c3 => ?_)
    · replace h := s_yes c3 h
      exact w_X7_hostKinds_b28 C0 hend (f_X7_hostKinds_b4 p1_marks_cells p1_marks_rows fu) ih l2 l3 _ _ _ h hS (lv_sub hl [0, 1, 2, 3] rfl)
    replace h := s_no c3 h
    refine lv_iload_n hx hb dX7_hostKinds_22 rfl (lv_at hl 2 rfl) ?_
    refine lv_iconst (v := (1 : Int32)) hx hb dX7_hostKinds_23 (by decide) ?_
    refine lv_iload_n hx hb dX7_hostKinds_24 rfl (lv_at hl 3 rfl) ?_
    refine lv_ishl hx hb dX7_hostKinds_25 ?_
    refine lv_ior hx hb dX7_hostKinds_26 ?_
    refine lv_istore_n (lv' := [(2, .int (l2 ||| ((1 : Int32) <<< (l3 &&& 31)))), (0, .ref a_this), (1, .ref a_p1), (3, .int l3)]) hx hb dX7_hostKinds_27 rfl hl (by decide) rfl (fun ls hl => ?_)
    exact w_X7_hostKinds_b28 C0 hend (f_X7_hostKinds_b4 p1_marks_cells p1_marks_rows fu) ih (l2 ||| ((1 : Int32) <<< (l3 &&& 31))) l3 _ _ _ h hS (lv_sub hl [1, 2, 0, 3] rfl)
def f_X7_hostKinds  (p1_marks_cells : (Nat → Int32)) (p1_marks_rows : Int32)  : Option (Int32) := f_X7_hostKinds_b4  p1_marks_cells p1_marks_rows s_fuel (0 : Int32) (0 : Int32)
set_option maxHeartbeats 4000000 in
set_option maxRecDepth 100000 in
theorem c_X7_hostKinds (l : Launch) (D : va_G) (cI cB cZ : ClassId) (a_this : Nat) (a_answers : Nat) (a_p1 : Nat) (a_p1_wets : Nat) (a_p1_guests : Nat) (a_p1_sights : Nat) (a_p1_remarks : Nat) (a_p1_marks : Nat) (a_p1_marks_cells : Nat) (a_p1_past : Nat) (p1_marks_cells : (Nat → Int32)) (p1_marks_rows : Int32) (p1_host : Int32) (p1_rooms : Int32) (p1_night : Int32) (p1_wheels : Int32) (p1_turned : Int32) (rv : Int32) (sz : Nat) (hf : f_X7_hostKinds p1_marks_cells p1_marks_rows = some rv) : Met l yX7_hostKinds wsX7_hostKinds rm_X7_hostKinds (sPc D vwCl (s_tys cI cB cZ) [.ref a_this, .ref a_p1] (wd_X7_hostKinds cI cB cZ a_this a_answers a_p1 a_p1_wets a_p1_guests a_p1_sights a_p1_remarks a_p1_marks a_p1_marks_cells a_p1_past p1_marks_cells p1_marks_rows p1_host p1_rooms p1_night p1_wheels p1_turned) sz) (sQi D vwCl (wd_X7_hostKinds cI cB cZ a_this a_answers a_p1 a_p1_wets a_p1_guests a_p1_sights a_p1_remarks a_p1_marks a_p1_marks_cells a_p1_past p1_marks_cells p1_marks_rows p1_host p1_rooms p1_night p1_wheels p1_turned) (wd_X7_hostKinds cI cB cZ a_this a_answers a_p1 a_p1_wets a_p1_guests a_p1_sights a_p1_remarks a_p1_marks a_p1_marks_cells a_p1_past p1_marks_cells p1_marks_rows p1_host p1_rooms p1_night p1_wheels p1_turned) sz rv) 0 0 (va_A (wd_X7_hostKinds cI cB cZ a_this a_answers a_p1 a_p1_wets a_p1_guests a_p1_sights a_p1_remarks a_p1_marks a_p1_marks_cells a_p1_past p1_marks_cells p1_marks_rows p1_host p1_rooms p1_night p1_wheels p1_turned) sz) := by
  refine s_enter_n (cc := cX7_hostKinds) (nL := 4) (r := rv) (by decide) rfl (Nat.le_of_ble_eq_true rfl) ?_
  intro p e s m args below meth c A Q C0 hend ls hl hS
  have h := hf
  clear hf
  replace hl : lv_has ls 4 [(0, .ref a_this), (1, .ref a_p1)] := hl
  unfold f_X7_hostKinds at h
  obtain ⟨hx, hb, hml, hown, hts, hK, hA⟩ := id C0
  have inX1 : ∀ w ∈ u_ws RX1 TX1 11, w ∈ wsX7_hostKinds := inX1_X7_hostKinds
  refine lv_iconst (v := (0 : Int32)) hx hb dX7_hostKinds_0 (by decide) ?_
  refine lv_istore_n (lv' := [(2, .int (0 : Int32)), (0, .ref a_this), (1, .ref a_p1)]) hx hb dX7_hostKinds_1 rfl hl (by decide) rfl (fun ls hl => ?_)
  refine lv_iconst (v := (0 : Int32)) hx hb dX7_hostKinds_2 (by decide) ?_
  refine lv_istore_n (lv' := [(3, .int (0 : Int32)), (2, .int (0 : Int32)), (0, .ref a_this), (1, .ref a_p1)]) hx hb dX7_hostKinds_3 rfl hl (by decide) rfl (fun ls hl => ?_)
  exact w_X7_hostKinds_b4 C0 hend  s_fuel (0 : Int32) (0 : Int32) _ _ _ h hS (lv_sub hl [2, 3, 1, 0] rfl)

