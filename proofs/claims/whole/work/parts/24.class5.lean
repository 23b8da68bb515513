-- InnTurned$Wits.bestLook(LInnTurned$House;I)I
def wd_X7_bestLook (cI cB cZ : ClassId) (a_this : Nat) (a_answers : Nat) (a_p1 : Nat) (a_p1_wets : Nat) (a_p1_guests : Nat) (a_p1_guests_cells : Nat) (a_p1_sights : Nat) (a_p1_remarks : Nat) (a_p1_remarks_cells : Nat) (a_p1_marks : Nat) (a_p1_past : Nat)  (answers : (Nat → Int32)) (p1_guests_cells : (Nat → Int32)) (p1_guests_rows : Int32) (p1_remarks_cells : (Nat → Int32)) (p1_remarks_rows : Int32) (p1_host : Int32) (p1_rooms : Int32) (p1_night : Int32) (p1_wheels : Int32) (p1_turned : Int32) : va_W := [(a_this, .inr (5, [.ref a_answers])), (a_answers, .inl (cI, 6, .inl answers)), (a_p1, .inr (0, [.ref a_p1_wets, .ref a_p1_guests, .ref a_p1_sights, .ref a_p1_remarks, .ref a_p1_marks, .ref a_p1_past, .int p1_host, .int p1_rooms, .int p1_night, .int p1_wheels, .int p1_turned])), (a_p1_guests, .inr (3, [.int 4, .int 7, .ref a_p1_guests_cells, .int p1_guests_rows])), (a_p1_guests_cells, .inl (cI, 28, .inl p1_guests_cells)), (a_p1_remarks, .inr (3, [.int 5, .int 6, .ref a_p1_remarks_cells, .int p1_remarks_rows])), (a_p1_remarks_cells, .inl (cI, 30, .inl p1_remarks_cells))]
abbrev rm_X7_bestLook : Room := { frames := 3, cells := 0, slots := 0, locals := 77 }
set_option maxRecDepth 20000 in
theorem inX1_X7_bestLook : ∀ w ∈ u_ws RX1 TX1 11, w ∈ wsX7_bestLook := by decide +kernel
set_option maxRecDepth 20000 in
theorem inX5_X7_bestLook : ∀ w ∈ u_ws RX5 TX5 4, w ∈ wsX7_bestLook := by decide +kernel
set_option maxRecDepth 20000 in
theorem inX7_X7_bestLook : ∀ w ∈ u_ws RX7 TX7 1, w ∈ wsX7_bestLook := by decide +kernel
def f_X7_bestLook_b113 (k_b23 : (Nat → Int32) → Int32 → Int32 → Int32 → Int32 → Int32 → Option (Int32 × (Nat → Int32))) (k_b33 : (Nat → Int32) → Int32 → Int32 → Int32 → Int32 → Int32 → Int32 → Option (Int32 × (Nat → Int32)))  (p1_guests_cells : (Nat → Int32)) (p1_guests_rows : Int32) (p1_remarks_cells : (Nat → Int32)) (p1_remarks_rows : Int32) (answers : (Nat → Int32)) (l2 : Int32) (l3 : Int32) (l4 : Int32) (l5 : Int32) (l6 : Int32) (l7 : Int32) : Option (Int32 × (Nat → Int32)) := k_b33 answers l2 l3 l4 l5 l6 (l7 + (1 : Int32))
set_option maxHeartbeats 4000000 in
set_option maxRecDepth 100000 in
theorem w_X7_bestLook_b113 {p : Program} {l : Launch} {e : Env} {s : State} {m : MethodId} {args : Array Value} {below : List Frame} {meth : Method} {c : Code} {A : Nat → Prop} {Q : State → Prop} {D : va_G} {cI cB cZ : ClassId} {a_this a_answers a_p1 a_p1_wets a_p1_guests a_p1_guests_cells a_p1_sights a_p1_remarks a_p1_remarks_cells a_p1_marks a_p1_past : Nat} {p1_guests_cells : (Nat → Int32)} {p1_guests_rows : Int32} {p1_remarks_cells : (Nat → Int32)} {p1_remarks_rows : Int32} {p1_host : Int32} {p1_rooms : Int32} {p1_night : Int32} {p1_wheels : Int32} {p1_turned : Int32} (C0 : Cx p s m args c cX7_bestLook 10 RX7 wsX7_bestLook D (s_tys cI cB cZ) A) {rv : Int32 × (Nat → Int32)} (hend : ∀ (pc : Nat) (H : Heap) (locs : List Loc) (ls : Array Slot), decode cX7_bestLook pc = .ok (.ireturn, 1) → sS D vwCl A s.heap (wd_X7_bestLook cI cB cZ a_this a_answers a_p1 a_p1_wets a_p1_guests a_p1_guests_cells a_p1_sights a_p1_remarks a_p1_remarks_cells a_p1_marks a_p1_past rv.2 p1_guests_cells p1_guests_rows p1_remarks_cells p1_remarks_rows p1_host p1_rooms p1_night p1_wheels p1_turned) H locs → W p l e rm_X7_bestLook s m args below meth c H locs 0 0 Q (F0 m pc ls [.int rv.1])) (k_b23 : (Nat → Int32) → Int32 → Int32 → Int32 → Int32 → Int32 → Option (Int32 × (Nat → Int32))) (hk_b23 : ∀ (answers : (Nat → Int32)) (l2 : Int32) (l3 : Int32) (l4 : Int32) (l5 : Int32) (l6 : Int32) (H : Heap) (locs : List Loc) (ls : Array Slot), k_b23 answers l2 l3 l4 l5 l6 = some rv → sS D vwCl A s.heap (wd_X7_bestLook cI cB cZ a_this a_answers a_p1 a_p1_wets a_p1_guests a_p1_guests_cells a_p1_sights a_p1_remarks a_p1_remarks_cells a_p1_marks a_p1_past answers p1_guests_cells p1_guests_rows p1_remarks_cells p1_remarks_rows p1_host p1_rooms p1_night p1_wheels p1_turned) H locs → lv_has ls 10 [(0, .ref a_this), (1, .ref a_p1), (2, .int l2), (3, .int l3), (4, .int l4), (5, .int l5), (6, .int l6)] → W p l e rm_X7_bestLook s m args below meth c H locs 0 0 Q (F0 m 23 ls [])) (k_b33 : (Nat → Int32) → Int32 → Int32 → Int32 → Int32 → Int32 → Int32 → Option (Int32 × (Nat → Int32))) (hk_b33 : ∀ (answers : (Nat → Int32)) (l2 : Int32) (l3 : Int32) (l4 : Int32) (l5 : Int32) (l6 : Int32) (l7 : Int32) (H : Heap) (locs : List Loc) (ls : Array Slot), k_b33 answers l2 l3 l4 l5 l6 l7 = some rv → sS D vwCl A s.heap (wd_X7_bestLook cI cB cZ a_this a_answers a_p1 a_p1_wets a_p1_guests a_p1_guests_cells a_p1_sights a_p1_remarks a_p1_remarks_cells a_p1_marks a_p1_past answers p1_guests_cells p1_guests_rows p1_remarks_cells p1_remarks_rows p1_host p1_rooms p1_night p1_wheels p1_turned) H locs → lv_has ls 10 [(0, .ref a_this), (1, .ref a_p1), (2, .int l2), (3, .int l3), (4, .int l4), (5, .int l5), (6, .int l6), (7, .int l7)] → W p l e rm_X7_bestLook s m args below meth c H locs 0 0 Q (F0 m 33 ls [])) : ∀ (answers : (Nat → Int32)) (l2 : Int32) (l3 : Int32) (l4 : Int32) (l5 : Int32) (l6 : Int32) (l7 : Int32) (H : Heap) (locs : List Loc) (ls : Array Slot), f_X7_bestLook_b113 k_b23 k_b33 p1_guests_cells p1_guests_rows p1_remarks_cells p1_remarks_rows answers l2 l3 l4 l5 l6 l7 = some rv → sS D vwCl A s.heap (wd_X7_bestLook cI cB cZ a_this a_answers a_p1 a_p1_wets a_p1_guests a_p1_guests_cells a_p1_sights a_p1_remarks a_p1_remarks_cells a_p1_marks a_p1_past answers p1_guests_cells p1_guests_rows p1_remarks_cells p1_remarks_rows p1_host p1_rooms p1_night p1_wheels p1_turned) H locs → lv_has ls 10 [(0, .ref a_this), (1, .ref a_p1), (2, .int l2), (3, .int l3), (4, .int l4), (5, .int l5), (6, .int l6), (7, .int l7)] → W p l e rm_X7_bestLook s m args below meth c H locs 0 0 Q (F0 m 113 ls []) := by
  obtain ⟨hx, hb, hml, hown, hts, hK, hA⟩ := id C0
  have inX1 : ∀ w ∈ u_ws RX1 TX1 11, w ∈ wsX7_bestLook := inX1_X7_bestLook
  have inX5 : ∀ w ∈ u_ws RX5 TX5 4, w ∈ wsX7_bestLook := inX5_X7_bestLook
  have inX7 : ∀ w ∈ u_ws RX7 TX7 1, w ∈ wsX7_bestLook := inX7_X7_bestLook
  intro answers l2 l3 l4 l5 l6 l7 H locs ls h hS hl
  unfold f_X7_bestLook_b113 at h
  refine lv_iinc (v := (l7 + (1 : Int32))) (lv' := [(7, .int (l7 + (1 : Int32))), (0, .ref a_this), (1, .ref a_p1), (2, .int l2), (3, .int l3), (4, .int l4), (5, .int l5), (6, .int l6)]) hx hb dX7_bestLook_113 hl (k := 7) rfl rfl (by decide) rfl (fun ls hl => ?_)
  refine lv_goto (tgt := 33) hx hb dX7_bestLook_116 (by decide) ?_
  exact hk_b33 answers l2 l3 l4 l5 l6 (l7 + (1 : Int32)) _ _ _ h hS (lv_sub hl [1, 2, 3, 4, 5, 6, 7, 0] rfl)
def f_X7_bestLook_b54 (k_b23 : (Nat → Int32) → Int32 → Int32 → Int32 → Int32 → Int32 → Option (Int32 × (Nat → Int32))) (k_b33 : (Nat → Int32) → Int32 → Int32 → Int32 → Int32 → Int32 → Int32 → Option (Int32 × (Nat → Int32)))  (p1_guests_cells : (Nat → Int32)) (p1_guests_rows : Int32) (p1_remarks_cells : (Nat → Int32)) (p1_remarks_rows : Int32) : Nat → (Nat → Int32) → Int32 → Int32 → Int32 → Int32 → Int32 → Int32 → Int32 → Int32 → Option (Int32 × (Nat → Int32))
  | 0, _, _, _, _, _, _, _, _, _ => none
  | fu + 1, answers, l2, l3, l4, l5, l6, l7, l8, l9 => (if (6 : Int32) ≤ l9 then ((f_X7_mostAlike answers l3).bind fun q2 => (if l5 ≤ q2 then f_X7_bestLook_b113 k_b23 k_b33 p1_guests_cells p1_guests_rows p1_remarks_cells p1_remarks_rows answers l2 l3 l4 l5 l6 l7 else f_X7_bestLook_b113 k_b23 k_b33 p1_guests_cells p1_guests_rows p1_remarks_cells p1_remarks_rows answers l2 l3 (((100 : Int32) * l6) + l7) q2 l6 l7)) else ((f_X2_likely l9 l8 l6 l7).bind fun q4 => (if ¬ (l9 < 0 ∨ 6 ≤ (Int32.toNatClampNeg l9)) then (f_X7_bestLook_b54 k_b23 k_b33 p1_guests_cells p1_guests_rows p1_remarks_cells p1_remarks_rows fu) (upd answers (Int32.toNatClampNeg l9) q4) l2 l3 l4 l5 l6 l7 l8 (l9 + (1 : Int32)) else none)))
set_option maxHeartbeats 4000000 in
set_option maxRecDepth 100000 in
theorem w_X7_bestLook_b54 {p : Program} {l : Launch} {e : Env} {s : State} {m : MethodId} {args : Array Value} {below : List Frame} {meth : Method} {c : Code} {A : Nat → Prop} {Q : State → Prop} {D : va_G} {cI cB cZ : ClassId} {a_this a_answers a_p1 a_p1_wets a_p1_guests a_p1_guests_cells a_p1_sights a_p1_remarks a_p1_remarks_cells a_p1_marks a_p1_past : Nat} {p1_guests_cells : (Nat → Int32)} {p1_guests_rows : Int32} {p1_remarks_cells : (Nat → Int32)} {p1_remarks_rows : Int32} {p1_host : Int32} {p1_rooms : Int32} {p1_night : Int32} {p1_wheels : Int32} {p1_turned : Int32} (C0 : Cx p s m args c cX7_bestLook 10 RX7 wsX7_bestLook D (s_tys cI cB cZ) A) {rv : Int32 × (Nat → Int32)} (hend : ∀ (pc : Nat) (H : Heap) (locs : List Loc) (ls : Array Slot), decode cX7_bestLook pc = .ok (.ireturn, 1) → sS D vwCl A s.heap (wd_X7_bestLook cI cB cZ a_this a_answers a_p1 a_p1_wets a_p1_guests a_p1_guests_cells a_p1_sights a_p1_remarks a_p1_remarks_cells a_p1_marks a_p1_past rv.2 p1_guests_cells p1_guests_rows p1_remarks_cells p1_remarks_rows p1_host p1_rooms p1_night p1_wheels p1_turned) H locs → W p l e rm_X7_bestLook s m args below meth c H locs 0 0 Q (F0 m pc ls [.int rv.1])) (k_b23 : (Nat → Int32) → Int32 → Int32 → Int32 → Int32 → Int32 → Option (Int32 × (Nat → Int32))) (hk_b23 : ∀ (answers : (Nat → Int32)) (l2 : Int32) (l3 : Int32) (l4 : Int32) (l5 : Int32) (l6 : Int32) (H : Heap) (locs : List Loc) (ls : Array Slot), k_b23 answers l2 l3 l4 l5 l6 = some rv → sS D vwCl A s.heap (wd_X7_bestLook cI cB cZ a_this a_answers a_p1 a_p1_wets a_p1_guests a_p1_guests_cells a_p1_sights a_p1_remarks a_p1_remarks_cells a_p1_marks a_p1_past answers p1_guests_cells p1_guests_rows p1_remarks_cells p1_remarks_rows p1_host p1_rooms p1_night p1_wheels p1_turned) H locs → lv_has ls 10 [(0, .ref a_this), (1, .ref a_p1), (2, .int l2), (3, .int l3), (4, .int l4), (5, .int l5), (6, .int l6)] → W p l e rm_X7_bestLook s m args below meth c H locs 0 0 Q (F0 m 23 ls [])) (k_b33 : (Nat → Int32) → Int32 → Int32 → Int32 → Int32 → Int32 → Int32 → Option (Int32 × (Nat → Int32))) (hk_b33 : ∀ (answers : (Nat → Int32)) (l2 : Int32) (l3 : Int32) (l4 : Int32) (l5 : Int32) (l6 : Int32) (l7 : Int32) (H : Heap) (locs : List Loc) (ls : Array Slot), k_b33 answers l2 l3 l4 l5 l6 l7 = some rv → sS D vwCl A s.heap (wd_X7_bestLook cI cB cZ a_this a_answers a_p1 a_p1_wets a_p1_guests a_p1_guests_cells a_p1_sights a_p1_remarks a_p1_remarks_cells a_p1_marks a_p1_past answers p1_guests_cells p1_guests_rows p1_remarks_cells p1_remarks_rows p1_host p1_rooms p1_night p1_wheels p1_turned) H locs → lv_has ls 10 [(0, .ref a_this), (1, .ref a_p1), (2, .int l2), (3, .int l3), (4, .int l4), (5, .int l5), (6, .int l6), (7, .int l7)] → W p l e rm_X7_bestLook s m args below meth c H locs 0 0 Q (F0 m 33 ls [])) : ∀ (fu : Nat) (answers : (Nat → Int32)) (l2 : Int32) (l3 : Int32) (l4 : Int32) (l5 : Int32) (l6 : Int32) (l7 : Int32) (l8 : Int32) (l9 : Int32) (H : Heap) (locs : List Loc) (ls : Array Slot), f_X7_bestLook_b54 k_b23 k_b33 p1_guests_cells p1_guests_rows p1_remarks_cells p1_remarks_rows fu answers l2 l3 l4 l5 l6 l7 l8 l9 = some rv → sS D vwCl A s.heap (wd_X7_bestLook cI cB cZ a_this a_answers a_p1 a_p1_wets a_p1_guests a_p1_guests_cells a_p1_sights a_p1_remarks a_p1_remarks_cells a_p1_marks a_p1_past answers p1_guests_cells p1_guests_rows p1_remarks_cells p1_remarks_rows p1_host p1_rooms p1_night p1_wheels p1_turned) H locs → lv_has ls 10 [(0, .ref a_this), (1, .ref a_p1), (2, .int l2), (3, .int l3), (4, .int l4), (5, .int l5), (6, .int l6), (7, .int l7), (8, .int l8), (9, .int l9)] → W p l e rm_X7_bestLook s m args below meth c H locs 0 0 Q (F0 m 54 ls []) := by
  obtain ⟨hx, hb, hml, hown, hts, hK, hA⟩ := id C0
  have inX1 : ∀ w ∈ u_ws RX1 TX1 11, w ∈ wsX7_bestLook := inX1_X7_bestLook
  have inX5 : ∀ w ∈ u_ws RX5 TX5 4, w ∈ wsX7_bestLook := inX5_X7_bestLook
  have inX7 : ∀ w ∈ u_ws RX7 TX7 1, w ∈ wsX7_bestLook := inX7_X7_bestLook
  intro fu
  induction fu with
  | zero => intro answers l2 l3 l4 l5 l6 l7 l8 l9 H locs ls h; cases h
  | succ fu ih =>
    intro answers l2 l3 l4 l5 l6 l7 l8 l9 H locs ls h hS hl
    rw [f_X7_bestLook_b54] at h
    refine lv_iload hx hb dX7_bestLook_54 (lv_at hl 9 rfl) ?_
    refine lv_bipush (v := (6 : Int32)) hx hb dX7_bestLook_56 (by decide) ?_
    refine lv_icmp_ge (tgt := 85) hx hb dX7_bestLook_58 (by decide) (fun c1 => ?_) (fun c1 => ?_)
    · replace h := s_yes c1 h
      refine lv_aload_n hx hb dX7_bestLook_85 rfl (lv_at hl 0 rfl) ?_
      refine lv_iload_n hx hb dX7_bestLook_86 rfl (lv_at hl 3 rfl) ?_
      obtain ⟨q2, hq2, h⟩ := s_bind h
      refine s_calliV (r := q2) (As := [.int l3]) (rest := []) (wc := (wd_X7_mostAlike cI cB cZ a_this a_answers answers)) (w1 := (wd_X7_mostAlike cI cB cZ a_this a_answers answers)) (ws' := (wd_X7_bestLook cI cB cZ a_this a_answers a_p1 a_p1_wets a_p1_guests a_p1_guests_cells a_p1_sights a_p1_remarks a_p1_remarks_cells a_p1_marks a_p1_past answers p1_guests_cells p1_guests_rows p1_remarks_cells p1_remarks_rows p1_host p1_rooms p1_night p1_wheels p1_turned)) hx hb hml hown hts hK hA hl hS (c_X7_mostAlike l D cI cB cZ a_this a_answers answers l3 _ _ hq2) (cwV 1 hts gX7_bestLook_X7_mostAlike rfl rfl rfl (by decide +kernel) ⟨Nat.le_of_ble_eq_true rfl, Nat.le_of_ble_eq_true rfl⟩) 0 rfl rfl [0, 1] rfl rfl rfl rfl rfl rfl (Nat.le_of_ble_eq_true rfl) dX7_bestLook_87 (fun H locs hS => ?_)
      refine lv_istore (lv' := [(9, .int q2), (0, .ref a_this), (1, .ref a_p1), (2, .int l2), (3, .int l3), (4, .int l4), (5, .int l5), (6, .int l6), (7, .int l7), (8, .int l8)]) hx hb dX7_bestLook_90 hl (by decide) rfl (fun ls hl => ?_)
      refine lv_iload hx hb dX7_bestLook_92 (lv_at hl 0 rfl) ?_
      refine lv_iload hx hb dX7_bestLook_94 (lv_at hl 6 rfl) ?_
      refine lv_icmp_ge (tgt := 113) hx hb dX7_bestLook_96 (by decide) (fun c3 => ?_) (fun c3 => ?_)
      · replace h := s_yes c3 h
        exact w_X7_bestLook_b113 C0 hend k_b23 hk_b23 k_b33 hk_b33 answers l2 l3 l4 l5 l6 l7 _ _ _ h hS (lv_sub hl [1, 2, 3, 4, 5, 6, 7, 8] rfl)
      replace h := s_no c3 h
      refine lv_iload hx hb dX7_bestLook_99 (lv_at hl 0 rfl) ?_
      refine lv_istore (lv' := [(5, .int q2), (9, .int q2), (0, .ref a_this), (1, .ref a_p1), (2, .int l2), (3, .int l3), (4, .int l4), (6, .int l6), (7, .int l7), (8, .int l8)]) hx hb dX7_bestLook_101 hl (by decide) rfl (fun ls hl => ?_)
      refine lv_bipush (v := (100 : Int32)) hx hb dX7_bestLook_103 (by decide) ?_
      refine lv_iload hx hb dX7_bestLook_105 (lv_at hl 7 rfl) ?_
      refine lv_imul hx hb dX7_bestLook_107 ?_
      refine lv_iload hx hb dX7_bestLook_108 (lv_at hl 8 rfl) ?_
      refine lv_iadd hx hb dX7_bestLook_110 ?_
      refine lv_istore (lv' := [(4, .int (((100 : Int32) * l6) + l7)), (5, .int q2), (9, .int q2), (0, .ref a_this), (1, .ref a_p1), (2, .int l2), (3, .int l3), (6, .int l6), (7, .int l7), (8, .int l8)]) hx hb dX7_bestLook_111 hl (by decide) rfl (fun ls hl => ?_)
      exact w_X7_bestLook_b113 C0 hend k_b23 hk_b23 k_b33 hk_b33 answers l2 l3 (((100 : Int32) * l6) + l7) q2 l6 l7 _ _ _ h hS (lv_sub hl [3, 4, 5, 6, 0, 1, 7, 8] rfl)
    replace h := s_no c1 h
    refine lv_aload_n hx hb dX7_bestLook_61 rfl (lv_at hl 0 rfl) ?_
    refine s_get (C := RX7) (T := TX7) (N := 1) hx hb hts inX7 hown hK hS 0 rfl rfl 0 (by decide) (hts (.fieldLink RX7 9 "InnTurned$Wits" "answers" "[I") (List.mem_of_getElem? (i := 1) rfl)) rfl rfl dX7_bestLook_62 ?_
    refine lv_iload hx hb dX7_bestLook_65 (lv_at hl 9 rfl) ?_
    refine lv_iload hx hb dX7_bestLook_67 (lv_at hl 9 rfl) ?_
    refine lv_iload hx hb dX7_bestLook_69 (lv_at hl 8 rfl) ?_
    refine lv_iload hx hb dX7_bestLook_71 (lv_at hl 6 rfl) ?_
    refine lv_iload hx hb dX7_bestLook_73 (lv_at hl 7 rfl) ?_
    obtain ⟨q4, hq4, h⟩ := s_bind h
    refine s_calliS (r := q4) (As := [.int l9, .int l8, .int l6, .int l7]) (rest := [.int l9, .ref a_answers]) (wc := ([] : va_W)) (w1 := ([] : va_W)) (ws' := (wd_X7_bestLook cI cB cZ a_this a_answers a_p1 a_p1_wets a_p1_guests a_p1_guests_cells a_p1_sights a_p1_remarks a_p1_remarks_cells a_p1_marks a_p1_past answers p1_guests_cells p1_guests_rows p1_remarks_cells p1_remarks_rows p1_host p1_rooms p1_night p1_wheels p1_turned)) hx hb hml hown hts hK hA hl hS (c_X2_likely l D cI cB cZ l9 l8 l6 l7 _ _ hq4) (va_cwS 4 hts gX7_bestLook_X2_likely rfl rfl rfl (by decide +kernel) ⟨Nat.le_of_ble_eq_true rfl, Nat.le_of_ble_eq_true rfl⟩) [] rfl rfl rfl rfl rfl rfl (Nat.le_of_ble_eq_true rfl) dX7_bestLook_75 (fun H locs hS => ?_)
    obtain ⟨g5, h⟩ := s_guard h
    refine s_iast (ws' := (wd_X7_bestLook cI cB cZ a_this a_answers a_p1 a_p1_wets a_p1_guests a_p1_guests_cells a_p1_sights a_p1_remarks a_p1_remarks_cells a_p1_marks a_p1_past (upd answers (Int32.toNatClampNeg l9) q4) p1_guests_cells p1_guests_rows p1_remarks_cells p1_remarks_rows p1_host p1_rooms p1_night p1_wheels p1_turned)) hx hb hK hS 1 rfl rfl g5 rfl dX7_bestLook_78 (fun H locs hS => ?_)
    refine lv_iinc (v := (l9 + (1 : Int32))) (lv' := [(9, .int (l9 + (1 : Int32))), (0, .ref a_this), (1, .ref a_p1), (2, .int l2), (3, .int l3), (4, .int l4), (5, .int l5), (6, .int l6), (7, .int l7), (8, .int l8)]) hx hb dX7_bestLook_79 hl (k := 9) rfl rfl (by decide) rfl (fun ls hl => ?_)
    refine lv_goto (tgt := 54) hx hb dX7_bestLook_82 (by decide) ?_
    exact ih (upd answers (Int32.toNatClampNeg l9) q4) l2 l3 l4 l5 l6 l7 l8 (l9 + (1 : Int32)) _ _ _ h hS (lv_sub hl [1, 2, 3, 4, 5, 6, 7, 8, 9, 0] rfl)
def f_X7_bestLook_b33 (k_b23 : (Nat → Int32) → Int32 → Int32 → Int32 → Int32 → Int32 → Option (Int32 × (Nat → Int32)))  (p1_guests_cells : (Nat → Int32)) (p1_guests_rows : Int32) (p1_remarks_cells : (Nat → Int32)) (p1_remarks_rows : Int32) : Nat → (Nat → Int32) → Int32 → Int32 → Int32 → Int32 → Int32 → Int32 → Option (Int32 × (Nat → Int32))
  | 0, _, _, _, _, _, _, _ => none
  | fu + 1, answers, l2, l3, l4, l5, l6, l7 => (if (7 : Int32) ≤ l7 then k_b23 answers l2 l3 l4 l5 (l6 + (1 : Int32)) else ((f_X5_cell 28 (4 : Int32) p1_guests_cells p1_guests_rows l2 (1 : Int32)).bind fun q7 => f_X7_bestLook_b54 k_b23 (f_X7_bestLook_b33 k_b23 p1_guests_cells p1_guests_rows p1_remarks_cells p1_remarks_rows fu) p1_guests_cells p1_guests_rows p1_remarks_cells p1_remarks_rows s_fuel answers l2 l3 l4 l5 l6 l7 q7 (0 : Int32)))
set_option maxHeartbeats 4000000 in
set_option maxRecDepth 100000 in
theorem w_X7_bestLook_b33 {p : Program} {l : Launch} {e : Env} {s : State} {m : MethodId} {args : Array Value} {below : List Frame} {meth : Method} {c : Code} {A : Nat → Prop} {Q : State → Prop} {D : va_G} {cI cB cZ : ClassId} {a_this a_answers a_p1 a_p1_wets a_p1_guests a_p1_guests_cells a_p1_sights a_p1_remarks a_p1_remarks_cells a_p1_marks a_p1_past : Nat} {p1_guests_cells : (Nat → Int32)} {p1_guests_rows : Int32} {p1_remarks_cells : (Nat → Int32)} {p1_remarks_rows : Int32} {p1_host : Int32} {p1_rooms : Int32} {p1_night : Int32} {p1_wheels : Int32} {p1_turned : Int32} (C0 : Cx p s m args c cX7_bestLook 10 RX7 wsX7_bestLook D (s_tys cI cB cZ) A) {rv : Int32 × (Nat → Int32)} (hend : ∀ (pc : Nat) (H : Heap) (locs : List Loc) (ls : Array Slot), decode cX7_bestLook pc = .ok (.ireturn, 1) → sS D vwCl A s.heap (wd_X7_bestLook cI cB cZ a_this a_answers a_p1 a_p1_wets a_p1_guests a_p1_guests_cells a_p1_sights a_p1_remarks a_p1_remarks_cells a_p1_marks a_p1_past rv.2 p1_guests_cells p1_guests_rows p1_remarks_cells p1_remarks_rows p1_host p1_rooms p1_night p1_wheels p1_turned) H locs → W p l e rm_X7_bestLook s m args below meth c H locs 0 0 Q (F0 m pc ls [.int rv.1])) (k_b23 : (Nat → Int32) → Int32 → Int32 → Int32 → Int32 → Int32 → Option (Int32 × (Nat → Int32))) (hk_b23 : ∀ (answers : (Nat → Int32)) (l2 : Int32) (l3 : Int32) (l4 : Int32) (l5 : Int32) (l6 : Int32) (H : Heap) (locs : List Loc) (ls : Array Slot), k_b23 answers l2 l3 l4 l5 l6 = some rv → sS D vwCl A s.heap (wd_X7_bestLook cI cB cZ a_this a_answers a_p1 a_p1_wets a_p1_guests a_p1_guests_cells a_p1_sights a_p1_remarks a_p1_remarks_cells a_p1_marks a_p1_past answers p1_guests_cells p1_guests_rows p1_remarks_cells p1_remarks_rows p1_host p1_rooms p1_night p1_wheels p1_turned) H locs → lv_has ls 10 [(0, .ref a_this), (1, .ref a_p1), (2, .int l2), (3, .int l3), (4, .int l4), (5, .int l5), (6, .int l6)] → W p l e rm_X7_bestLook s m args below meth c H locs 0 0 Q (F0 m 23 ls [])) : ∀ (fu : Nat) (answers : (Nat → Int32)) (l2 : Int32) (l3 : Int32) (l4 : Int32) (l5 : Int32) (l6 : Int32) (l7 : Int32) (H : Heap) (locs : List Loc) (ls : Array Slot), f_X7_bestLook_b33 k_b23 p1_guests_cells p1_guests_rows p1_remarks_cells p1_remarks_rows fu answers l2 l3 l4 l5 l6 l7 = some rv → sS D vwCl A s.heap (wd_X7_bestLook cI cB cZ a_this a_answers a_p1 a_p1_wets a_p1_guests a_p1_guests_cells a_p1_sights a_p1_remarks a_p1_remarks_cells a_p1_marks a_p1_past answers p1_guests_cells p1_guests_rows p1_remarks_cells p1_remarks_rows p1_host p1_rooms p1_night p1_wheels p1_turned) H locs → lv_has ls 10 [(0, .ref a_this), (1, .ref a_p1), (2, .int l2), (3, .int l3), (4, .int l4), (5, .int l5), (6, .int l6), (7, .int l7)] → W p l e rm_X7_bestLook s m args below meth c H locs 0 0 Q (F0 m 33 ls []) := by
  obtain ⟨hx, hb, hml, hown, hts, hK, hA⟩ := id C0
  have inX1 : ∀ w ∈ u_ws RX1 TX1 11, w ∈ wsX7_bestLook := inX1_X7_bestLook
  have inX5 : ∀ w ∈ u_ws RX5 TX5 4, w ∈ wsX7_bestLook := inX5_X7_bestLook
  have inX7 : ∀ w ∈ u_ws RX7 TX7 1, w ∈ wsX7_bestLook := inX7_X7_bestLook
  intro fu
  induction fu with
  | zero => intro answers l2 l3 l4 l5 l6 l7 H locs ls h; cases h
  | succ fu ih =>
    intro answers l2 l3 l4 l5 l6 l7 H locs ls h hS hl
    rw [f_X7_bestLook_b33] at h
    refine lv_iload hx hb dX7_bestLook_33 (lv_at hl 7 rfl) ?_
    refine lv_bipush (v := (7 : Int32)) hx hb dX7_bestLook_35 (by decide) ?_
    refine lv_icmp_ge (tgt := 119) hx hb dX7_bestLook_37 (by decide) (fun c6 => ?_) (fun c6 => ?_)
    · replace h := s_yes c6 h
      refine lv_iinc (v := (l6 + (1 : Int32))) (lv' := [(6, .int (l6 + (1 : Int32))), (0, .ref a_this), (1, .ref a_p1), (2, .int l2), (3, .int l3), (4, .int l4), (5, .int l5), (7, .int l7)]) hx hb dX7_bestLook_119 hl (k := 6) rfl rfl (by decide) rfl (fun ls hl => ?_)
      refine lv_goto (tgt := 23) hx hb dX7_bestLook_122 (by decide) ?_
      exact hk_b23 answers l2 l3 l4 l5 (l6 + (1 : Int32)) _ _ _ h hS (lv_sub hl [1, 2, 3, 4, 5, 6, 0] rfl)
    replace h := s_no c6 h
    refine lv_aload_n hx hb dX7_bestLook_40 rfl (lv_at hl 1 rfl) ?_
    refine s_getN (C := RX1) (T := TX1) (N := 11) hx hb hts inX1 hown hK hS 2 rfl rfl 1 (by decide) 9 rfl rfl rfl dX7_bestLook_41 ?_
    refine lv_iload_n hx hb dX7_bestLook_44 rfl (lv_at hl 2 rfl) ?_
    refine lv_iconst (v := (1 : Int32)) hx hb dX7_bestLook_45 (by decide) ?_
    obtain ⟨q7, hq7, h⟩ := s_bind h
    refine s_calliV (r := q7) (As := [.int l2, .int (1 : Int32)]) (rest := []) (wc := (wd_X5_cell cI cB cZ a_p1_guests a_p1_guests_cells 28 (4 : Int32) (7 : Int32) p1_guests_cells p1_guests_rows)) (w1 := (wd_X5_cell cI cB cZ a_p1_guests a_p1_guests_cells 28 (4 : Int32) (7 : Int32) p1_guests_cells p1_guests_rows)) (ws' := (wd_X7_bestLook cI cB cZ a_this a_answers a_p1 a_p1_wets a_p1_guests a_p1_guests_cells a_p1_sights a_p1_remarks a_p1_remarks_cells a_p1_marks a_p1_past answers p1_guests_cells p1_guests_rows p1_remarks_cells p1_remarks_rows p1_host p1_rooms p1_night p1_wheels p1_turned)) hx hb hml hown hts hK hA hl hS (c_X5_cell l D cI cB cZ a_p1_guests a_p1_guests_cells 28 (4 : Int32) (7 : Int32) p1_guests_cells p1_guests_rows l2 (1 : Int32) _ _ hq7) (cwV 2 hts gX7_bestLook_X5_cell rfl rfl rfl (by decide +kernel) ⟨Nat.le_of_ble_eq_true rfl, Nat.le_of_ble_eq_true rfl⟩) 3 rfl rfl [3, 4] rfl rfl rfl rfl rfl rfl (Nat.le_of_ble_eq_true rfl) dX7_bestLook_46 (fun H locs hS => ?_)
    refine lv_istore (lv' := [(8, .int q7), (0, .ref a_this), (1, .ref a_p1), (2, .int l2), (3, .int l3), (4, .int l4), (5, .int l5), (6, .int l6), (7, .int l7)]) hx hb dX7_bestLook_49 hl (by decide) rfl (fun ls hl => ?_)
    refine lv_iconst (v := (0 : Int32)) hx hb dX7_bestLook_51 (by decide) ?_
    refine lv_istore (lv' := [(9, .int (0 : Int32)), (8, .int q7), (0, .ref a_this), (1, .ref a_p1), (2, .int l2), (3, .int l3), (4, .int l4), (5, .int l5), (6, .int l6), (7, .int l7)]) hx hb dX7_bestLook_52 hl (by decide) rfl (fun ls hl => ?_)
    exact w_X7_bestLook_b54 C0 hend k_b23 hk_b23 (f_X7_bestLook_b33 k_b23 p1_guests_cells p1_guests_rows p1_remarks_cells p1_remarks_rows fu) ih s_fuel answers l2 l3 l4 l5 l6 l7 q7 (0 : Int32) _ _ _ h hS (lv_sub hl [2, 3, 4, 5, 6, 7, 8, 9, 1, 0] rfl)
def f_X7_bestLook_b23  (p1_guests_cells : (Nat → Int32)) (p1_guests_rows : Int32) (p1_remarks_cells : (Nat → Int32)) (p1_remarks_rows : Int32) : Nat → (Nat → Int32) → Int32 → Int32 → Int32 → Int32 → Int32 → Option (Int32 × (Nat → Int32))
  | 0, _, _, _, _, _, _ => none
  | fu + 1, answers, l2, l3, l4, l5, l6 => (if (9 : Int32) < l6 then some (l4, answers) else f_X7_bestLook_b33 (f_X7_bestLook_b23 p1_guests_cells p1_guests_rows p1_remarks_cells p1_remarks_rows fu) p1_guests_cells p1_guests_rows p1_remarks_cells p1_remarks_rows s_fuel answers l2 l3 l4 l5 l6 (0 : Int32))
set_option maxHeartbeats 4000000 in
set_option maxRecDepth 100000 in
theorem w_X7_bestLook_b23 {p : Program} {l : Launch} {e : Env} {s : State} {m : MethodId} {args : Array Value} {below : List Frame} {meth : Method} {c : Code} {A : Nat → Prop} {Q : State → Prop} {D : va_G} {cI cB cZ : ClassId} {a_this a_answers a_p1 a_p1_wets a_p1_guests a_p1_guests_cells a_p1_sights a_p1_remarks a_p1_remarks_cells a_p1_marks a_p1_past : Nat} {p1_guests_cells : (Nat → Int32)} {p1_guests_rows : Int32} {p1_remarks_cells : (Nat → Int32)} {p1_remarks_rows : Int32} {p1_host : Int32} {p1_rooms : Int32} {p1_night : Int32} {p1_wheels : Int32} {p1_turned : Int32} (C0 : Cx p s m args c cX7_bestLook 10 RX7 wsX7_bestLook D (s_tys cI cB cZ) A) {rv : Int32 × (Nat → Int32)} (hend : ∀ (pc : Nat) (H : Heap) (locs : List Loc) (ls : Array Slot), decode cX7_bestLook pc = .ok (.ireturn, 1) → sS D vwCl A s.heap (wd_X7_bestLook cI cB cZ a_this a_answers a_p1 a_p1_wets a_p1_guests a_p1_guests_cells a_p1_sights a_p1_remarks a_p1_remarks_cells a_p1_marks a_p1_past rv.2 p1_guests_cells p1_guests_rows p1_remarks_cells p1_remarks_rows p1_host p1_rooms p1_night p1_wheels p1_turned) H locs → W p l e rm_X7_bestLook s m args below meth c H locs 0 0 Q (F0 m pc ls [.int rv.1])) : ∀ (fu : Nat) (answers : (Nat → Int32)) (l2 : Int32) (l3 : Int32) (l4 : Int32) (l5 : Int32) (l6 : Int32) (H : Heap) (locs : List Loc) (ls : Array Slot), f_X7_bestLook_b23 p1_guests_cells p1_guests_rows p1_remarks_cells p1_remarks_rows fu answers l2 l3 l4 l5 l6 = some rv → sS D vwCl A s.heap (wd_X7_bestLook cI cB cZ a_this a_answers a_p1 a_p1_wets a_p1_guests a_p1_guests_cells a_p1_sights a_p1_remarks a_p1_remarks_cells a_p1_marks a_p1_past answers p1_guests_cells p1_guests_rows p1_remarks_cells p1_remarks_rows p1_host p1_rooms p1_night p1_wheels p1_turned) H locs → lv_has ls 10 [(0, .ref a_this), (1, .ref a_p1), (2, .int l2), (3, .int l3), (4, .int l4), (5, .int l5), (6, .int l6)] → W p l e rm_X7_bestLook s m args below meth c H locs 0 0 Q (F0 m 23 ls []) := by
  obtain ⟨hx, hb, hml, hown, hts, hK, hA⟩ := id C0
  have inX1 : ∀ w ∈ u_ws RX1 TX1 11, w ∈ wsX7_bestLook := inX1_X7_bestLook
  have inX5 : ∀ w ∈ u_ws RX5 TX5 4, w ∈ wsX7_bestLook := inX5_X7_bestLook
  have inX7 : ∀ w ∈ u_ws RX7 TX7 1, w ∈ wsX7_bestLook := inX7_X7_bestLook
  intro fu
  induction fu with
  | zero => intro answers l2 l3 l4 l5 l6 H locs ls h; cases h
  | succ fu ih =>
    intro answers l2 l3 l4 l5 l6 H locs ls h hS hl
    rw [f_X7_bestLook_b23] at h
    refine lv_iload hx hb dX7_bestLook_23 (lv_at hl 6 rfl) ?_
    refine lv_bipush (v := (9 : Int32)) hx hb dX7_bestLook_25 (by decide) ?_
    refine lv_icmp_gt (tgt := 125) hx hb dX7_bestLook_27 (by decide) (fun c8 => ?_) (fun c8 => ?_)
    · replace h := s_yes c8 h
      refine lv_iload hx hb dX7_bestLook_125 (lv_at hl 4 rfl) ?_
      obtain rfl := Option.some.inj h
      exact hend _ _ _ _ dX7_bestLook_127 hS
    replace h := s_no c8 h
    refine lv_iconst (v := (0 : Int32)) hx hb dX7_bestLook_30 (by decide) ?_
    refine lv_istore (lv' := [(7, .int (0 : Int32)), (0, .ref a_this), (1, .ref a_p1), (2, .int l2), (3, .int l3), (4, .int l4), (5, .int l5), (6, .int l6)]) hx hb dX7_bestLook_31 hl (by decide) rfl (fun ls hl => ?_)
    exact w_X7_bestLook_b33 C0 hend (f_X7_bestLook_b23 p1_guests_cells p1_guests_rows p1_remarks_cells p1_remarks_rows fu) ih s_fuel answers l2 l3 l4 l5 l6 (0 : Int32) _ _ _ h hS (lv_sub hl [1, 2, 3, 4, 5, 6, 7, 0] rfl)
def f_X7_bestLook  (p1_guests_cells : (Nat → Int32)) (p1_guests_rows : Int32) (p1_remarks_cells : (Nat → Int32)) (p1_remarks_rows : Int32) (answers : (Nat → Int32)) (p2 : Int32) : Option (Int32 × (Nat → Int32)) := ((f_X7_guestKinds p1_remarks_cells p1_remarks_rows p2).bind fun q9 => (if q9 = 0 then some ((-1 : Int32), answers) else f_X7_bestLook_b23  p1_guests_cells p1_guests_rows p1_remarks_cells p1_remarks_rows s_fuel answers p2 q9 (-1 : Int32) (7 : Int32) (0 : Int32)))
set_option maxHeartbeats 4000000 in
set_option maxRecDepth 100000 in
theorem c_X7_bestLook (l : Launch) (D : va_G) (cI cB cZ : ClassId) (a_this : Nat) (a_answers : Nat) (a_p1 : Nat) (a_p1_wets : Nat) (a_p1_guests : Nat) (a_p1_guests_cells : Nat) (a_p1_sights : Nat) (a_p1_remarks : Nat) (a_p1_remarks_cells : Nat) (a_p1_marks : Nat) (a_p1_past : Nat) (answers : (Nat → Int32)) (p1_guests_cells : (Nat → Int32)) (p1_guests_rows : Int32) (p1_remarks_cells : (Nat → Int32)) (p1_remarks_rows : Int32) (p1_host : Int32) (p1_rooms : Int32) (p1_night : Int32) (p1_wheels : Int32) (p1_turned : Int32) (p2 : Int32) (rv : Int32 × (Nat → Int32)) (sz : Nat) (hf : f_X7_bestLook p1_guests_cells p1_guests_rows p1_remarks_cells p1_remarks_rows answers p2 = some rv) : Met l yX7_bestLook wsX7_bestLook rm_X7_bestLook (sPc D vwCl (s_tys cI cB cZ) [.ref a_this, .ref a_p1, .int p2] (wd_X7_bestLook cI cB cZ a_this a_answers a_p1 a_p1_wets a_p1_guests a_p1_guests_cells a_p1_sights a_p1_remarks a_p1_remarks_cells a_p1_marks a_p1_past answers p1_guests_cells p1_guests_rows p1_remarks_cells p1_remarks_rows p1_host p1_rooms p1_night p1_wheels p1_turned) sz) (sQi D vwCl (wd_X7_bestLook cI cB cZ a_this a_answers a_p1 a_p1_wets a_p1_guests a_p1_guests_cells a_p1_sights a_p1_remarks a_p1_remarks_cells a_p1_marks a_p1_past answers p1_guests_cells p1_guests_rows p1_remarks_cells p1_remarks_rows p1_host p1_rooms p1_night p1_wheels p1_turned) (wd_X7_bestLook cI cB cZ a_this a_answers a_p1 a_p1_wets a_p1_guests a_p1_guests_cells a_p1_sights a_p1_remarks a_p1_remarks_cells a_p1_marks a_p1_past rv.2 p1_guests_cells p1_guests_rows p1_remarks_cells p1_remarks_rows p1_host p1_rooms p1_night p1_wheels p1_turned) sz rv.1) 0 0 (va_A (wd_X7_bestLook cI cB cZ a_this a_answers a_p1 a_p1_wets a_p1_guests a_p1_guests_cells a_p1_sights a_p1_remarks a_p1_remarks_cells a_p1_marks a_p1_past answers p1_guests_cells p1_guests_rows p1_remarks_cells p1_remarks_rows p1_host p1_rooms p1_night p1_wheels p1_turned) sz) := by
  refine s_enter_n (cc := cX7_bestLook) (nL := 10) (r := rv.1) (by decide) rfl (Nat.le_of_ble_eq_true rfl) ?_
  intro p e s m args below meth c A Q C0 hend ls hl hS
  have h := hf
  clear hf
  replace hl : lv_has ls 10 [(0, .ref a_this), (1, .ref a_p1), (2, .int p2)] := hl
  unfold f_X7_bestLook at h
  obtain ⟨hx, hb, hml, hown, hts, hK, hA⟩ := id C0
  have inX1 : ∀ w ∈ u_ws RX1 TX1 11, w ∈ wsX7_bestLook := inX1_X7_bestLook
  have inX5 : ∀ w ∈ u_ws RX5 TX5 4, w ∈ wsX7_bestLook := inX5_X7_bestLook
  have inX7 : ∀ w ∈ u_ws RX7 TX7 1, w ∈ wsX7_bestLook := inX7_X7_bestLook
  refine lv_aload_n hx hb dX7_bestLook_0 rfl (lv_at hl 0 rfl) ?_
  refine lv_aload_n hx hb dX7_bestLook_1 rfl (lv_at hl 1 rfl) ?_
  refine lv_iload_n hx hb dX7_bestLook_2 rfl (lv_at hl 2 rfl) ?_
  obtain ⟨q9, hq9, h⟩ := s_bind h
  refine s_calliV (r := q9) (As := [.ref a_p1, .int p2]) (rest := []) (wc := (wd_X7_guestKinds cI cB cZ a_this a_answers a_p1 a_p1_wets a_p1_guests a_p1_sights a_p1_remarks a_p1_remarks_cells a_p1_marks a_p1_past p1_remarks_cells p1_remarks_rows p1_host p1_rooms p1_night p1_wheels p1_turned)) (w1 := (wd_X7_guestKinds cI cB cZ a_this a_answers a_p1 a_p1_wets a_p1_guests a_p1_sights a_p1_remarks a_p1_remarks_cells a_p1_marks a_p1_past p1_remarks_cells p1_remarks_rows p1_host p1_rooms p1_night p1_wheels p1_turned)) (ws' := (wd_X7_bestLook cI cB cZ a_this a_answers a_p1 a_p1_wets a_p1_guests a_p1_guests_cells a_p1_sights a_p1_remarks a_p1_remarks_cells a_p1_marks a_p1_past answers p1_guests_cells p1_guests_rows p1_remarks_cells p1_remarks_rows p1_host p1_rooms p1_night p1_wheels p1_turned)) hx hb hml hown hts hK hA hl hS (c_X7_guestKinds l D cI cB cZ a_this a_answers a_p1 a_p1_wets a_p1_guests a_p1_sights a_p1_remarks a_p1_remarks_cells a_p1_marks a_p1_past p1_remarks_cells p1_remarks_rows p1_host p1_rooms p1_night p1_wheels p1_turned p2 _ _ hq9) (cwV 2 hts gX7_bestLook_X7_guestKinds rfl rfl rfl (by decide +kernel) ⟨Nat.le_of_ble_eq_true rfl, Nat.le_of_ble_eq_true rfl⟩) 0 rfl rfl [0, 2, 5, 6] rfl rfl rfl rfl rfl rfl (Nat.le_of_ble_eq_true rfl) dX7_bestLook_3 (fun H locs hS => ?_)
  refine lv_istore_n (lv' := [(3, .int q9), (0, .ref a_this), (1, .ref a_p1), (2, .int p2)]) hx hb dX7_bestLook_6 rfl hl (by decide) rfl (fun ls hl => ?_)
  refine lv_iconst (v := (-1 : Int32)) hx hb dX7_bestLook_7 (by decide) ?_
  refine lv_istore (lv' := [(4, .int (-1 : Int32)), (3, .int q9), (0, .ref a_this), (1, .ref a_p1), (2, .int p2)]) hx hb dX7_bestLook_8 hl (by decide) rfl (fun ls hl => ?_)
  refine lv_bipush (v := (7 : Int32)) hx hb dX7_bestLook_10 (by decide) ?_
  refine lv_istore (lv' := [(5, .int (7 : Int32)), (4, .int (-1 : Int32)), (3, .int q9), (0, .ref a_this), (1, .ref a_p1), (2, .int p2)]) hx hb dX7_bestLook_12 hl (by decide) rfl (fun ls hl => ?_)
  refine lv_iload_n hx hb dX7_bestLook_14 rfl (lv_at hl 2 rfl) ?_
  refine lv_if_ne (tgt := 20) hx hb dX7_bestLook_15 (by decide) (fun c10 => ?_) (fun c10 => ?_)
  · replace h := s_no c10 h
    refine lv_iconst (v := (0 : Int32)) hx hb dX7_bestLook_20 (by decide) ?_
    refine lv_istore (lv' := [(6, .int (0 : Int32)), (5, .int (7 : Int32)), (4, .int (-1 : Int32)), (3, .int q9), (0, .ref a_this), (1, .ref a_p1), (2, .int p2)]) hx hb dX7_bestLook_21 hl (by decide) rfl (fun ls hl => ?_)
    exact w_X7_bestLook_b23 C0 hend  s_fuel answers p2 q9 (-1 : Int32) (7 : Int32) (0 : Int32) _ _ _ h hS (lv_sub hl [4, 5, 6, 3, 2, 1, 0] rfl)
  replace h := s_yes c10 h
  refine lv_iconst (v := (-1 : Int32)) hx hb dX7_bestLook_18 (by decide) ?_
  obtain rfl := Option.some.inj h
  exact hend _ _ _ _ dX7_bestLook_19 hS

-- InnTurned$Wits.fitsMarks(LInnTurned$Table;I)Z
def wd_X7_fitsMarks (cI cB cZ : ClassId) (a_this : Nat) (a_p1 : Nat) (a_p1_cells : Nat) (n_p1_cells : Nat) (p1_width : Int32) (p1_most : Int32) (p1_cells : (Nat → Int32)) (p1_rows : Int32) : va_W := [(a_p1, .inr (3, [.int p1_width, .int p1_most, .ref a_p1_cells, .int p1_rows])), (a_p1_cells, .inl (cI, n_p1_cells, .inl p1_cells))]
abbrev rm_X7_fitsMarks : Room := { frames := 1, cells := 0, slots := 0, locals := 25 }
set_option maxRecDepth 20000 in
theorem inX5_X7_fitsMarks : ∀ w ∈ u_ws RX5 TX5 4, w ∈ wsX7_fitsMarks := by decide +kernel
def f_X7_fitsMarks_b2 (n_p1_cells : Nat) (p1_width : Int32) (p1_cells : (Nat → Int32)) (p1_rows : Int32) : Nat → Int32 → Int32 → Option (Int32)
  | 0, _, _ => none
  | fu + 1, l2, l3 => (if p1_rows ≤ l3 then some ((1 : Int32)) else ((f_X5_cell n_p1_cells p1_width p1_cells p1_rows l3 (0 : Int32)).bind fun q2 => ((f_X5_cell n_p1_cells p1_width p1_cells p1_rows l3 (1 : Int32)).bind fun q3 => ((f_X2_letsPass l2 q2 q3).bind fun q4 => ((f_X5_cell n_p1_cells p1_width p1_cells p1_rows l3 (2 : Int32)).bind fun q5 => (if q4 = q5 then (f_X7_fitsMarks_b2 n_p1_cells p1_width p1_cells p1_rows fu) l2 (l3 + (1 : Int32)) else some ((0 : Int32))))))))
set_option maxHeartbeats 4000000 in
set_option maxRecDepth 100000 in
theorem w_X7_fitsMarks_b2 {p : Program} {l : Launch} {e : Env} {s : State} {m : MethodId} {args : Array Value} {below : List Frame} {meth : Method} {c : Code} {A : Nat → Prop} {Q : State → Prop} {D : va_G} {cI cB cZ : ClassId} {a_this a_p1 a_p1_cells : Nat} {n_p1_cells : Nat} {p1_width : Int32} {p1_most : Int32} {p1_cells : (Nat → Int32)} {p1_rows : Int32} (C0 : Cx p s m args c cX7_fitsMarks 6 RX7 wsX7_fitsMarks D (s_tys cI cB cZ) A) {rv : Int32} (hend : ∀ (pc : Nat) (H : Heap) (locs : List Loc) (ls : Array Slot), decode cX7_fitsMarks pc = .ok (.ireturn, 1) → (rv = 0 ∨ rv = 1) → sS D vwCl A s.heap (wd_X7_fitsMarks cI cB cZ a_this a_p1 a_p1_cells n_p1_cells p1_width p1_most p1_cells p1_rows) H locs → W p l e rm_X7_fitsMarks s m args below meth c H locs 0 0 Q (F0 m pc ls [.int rv])) : ∀ (fu : Nat)  (l2 : Int32) (l3 : Int32) (H : Heap) (locs : List Loc) (ls : Array Slot), f_X7_fitsMarks_b2 n_p1_cells p1_width p1_cells p1_rows fu l2 l3 = some rv → sS D vwCl A s.heap (wd_X7_fitsMarks cI cB cZ a_this a_p1 a_p1_cells n_p1_cells p1_width p1_most p1_cells p1_rows) H locs → lv_has ls 6 [(1, .ref a_p1), (2, .int l2), (3, .int l3)] → W p l e rm_X7_fitsMarks s m args below meth c H locs 0 0 Q (F0 m 2 ls []) := by
  obtain ⟨hx, hb, hml, hown, hts, hK, hA⟩ := id C0
  have inX5 : ∀ w ∈ u_ws RX5 TX5 4, w ∈ wsX7_fitsMarks := inX5_X7_fitsMarks
  intro fu
  induction fu with
  | zero => intro l2 l3 H locs ls h; cases h
  | succ fu ih =>
    intro l2 l3 H locs ls h hS hl
    rw [f_X7_fitsMarks_b2] at h
    refine lv_iload_n hx hb dX7_fitsMarks_2 rfl (lv_at hl 2 rfl) ?_
    refine lv_aload_n hx hb dX7_fitsMarks_3 rfl (lv_at hl 0 rfl) ?_
    refine s_getN (C := RX5) (T := TX5) (N := 4) hx hb hts inX5 hown hK hS 0 rfl rfl 3 (by decide) 5 rfl rfl rfl dX7_fitsMarks_4 ?_
    refine lv_icmp_ge (tgt := 51) hx hb dX7_fitsMarks_7 (by decide) (fun c1 => ?_) (fun c1 => ?_)
    · replace h := s_yes c1 h
      refine lv_iconst (v := (1 : Int32)) hx hb dX7_fitsMarks_51 (by decide) ?_
      obtain rfl := Option.some.inj h
      exact hend _ _ _ _ dX7_fitsMarks_52 (Or.inr rfl) hS
    replace h := s_no c1 h
    refine lv_aload_n hx hb dX7_fitsMarks_10 rfl (lv_at hl 0 rfl) ?_
    refine lv_iload_n hx hb dX7_fitsMarks_11 rfl (lv_at hl 2 rfl) ?_
    refine lv_iconst (v := (0 : Int32)) hx hb dX7_fitsMarks_12 (by decide) ?_
    obtain ⟨q2, hq2, h⟩ := s_bind h
    refine s_calliV (r := q2) (As := [.int l3, .int (0 : Int32)]) (rest := []) (wc := (wd_X5_cell cI cB cZ a_p1 a_p1_cells n_p1_cells p1_width p1_most p1_cells p1_rows)) (w1 := (wd_X5_cell cI cB cZ a_p1 a_p1_cells n_p1_cells p1_width p1_most p1_cells p1_rows)) (ws' := (wd_X7_fitsMarks cI cB cZ a_this a_p1 a_p1_cells n_p1_cells p1_width p1_most p1_cells p1_rows)) hx hb hml hown hts hK hA hl hS (c_X5_cell l D cI cB cZ a_p1 a_p1_cells n_p1_cells p1_width p1_most p1_cells p1_rows l3 (0 : Int32) _ _ hq2) (cwV 2 hts gX7_fitsMarks_X5_cell rfl rfl rfl (by decide +kernel) ⟨Nat.le_of_ble_eq_true rfl, Nat.le_of_ble_eq_true rfl⟩) 0 rfl rfl [0, 1] rfl rfl rfl rfl rfl rfl (Nat.le_of_ble_eq_true rfl) dX7_fitsMarks_13 (fun H locs hS => ?_)
    refine lv_istore (lv' := [(4, .int q2), (1, .ref a_p1), (2, .int l2), (3, .int l3)]) hx hb dX7_fitsMarks_16 hl (by decide) rfl (fun ls hl => ?_)
    refine lv_aload_n hx hb dX7_fitsMarks_18 rfl (lv_at hl 1 rfl) ?_
    refine lv_iload_n hx hb dX7_fitsMarks_19 rfl (lv_at hl 3 rfl) ?_
    refine lv_iconst (v := (1 : Int32)) hx hb dX7_fitsMarks_20 (by decide) ?_
    obtain ⟨q3, hq3, h⟩ := s_bind h
    refine s_calliV (r := q3) (As := [.int l3, .int (1 : Int32)]) (rest := []) (wc := (wd_X5_cell cI cB cZ a_p1 a_p1_cells n_p1_cells p1_width p1_most p1_cells p1_rows)) (w1 := (wd_X5_cell cI cB cZ a_p1 a_p1_cells n_p1_cells p1_width p1_most p1_cells p1_rows)) (ws' := (wd_X7_fitsMarks cI cB cZ a_this a_p1 a_p1_cells n_p1_cells p1_width p1_most p1_cells p1_rows)) hx hb hml hown hts hK hA hl hS (c_X5_cell l D cI cB cZ a_p1 a_p1_cells n_p1_cells p1_width p1_most p1_cells p1_rows l3 (1 : Int32) _ _ hq3) (cwV 2 hts gX7_fitsMarks_X5_cell rfl rfl rfl (by decide +kernel) ⟨Nat.le_of_ble_eq_true rfl, Nat.le_of_ble_eq_true rfl⟩) 0 rfl rfl [0, 1] rfl rfl rfl rfl rfl rfl (Nat.le_of_ble_eq_true rfl) dX7_fitsMarks_21 (fun H locs hS => ?_)
    refine lv_istore (lv' := [(5, .int q3), (4, .int q2), (1, .ref a_p1), (2, .int l2), (3, .int l3)]) hx hb dX7_fitsMarks_24 hl (by decide) rfl (fun ls hl => ?_)
    refine lv_iload_n hx hb dX7_fitsMarks_26 rfl (lv_at hl 3 rfl) ?_
    refine lv_iload hx hb dX7_fitsMarks_27 (lv_at hl 1 rfl) ?_
    refine lv_iload hx hb dX7_fitsMarks_29 (lv_at hl 0 rfl) ?_
    obtain ⟨q4, hq4, h⟩ := s_bind h
    refine s_calliS (r := q4) (As := [.int l2, .int q2, .int q3]) (rest := []) (wc := ([] : va_W)) (w1 := ([] : va_W)) (ws' := (wd_X7_fitsMarks cI cB cZ a_this a_p1 a_p1_cells n_p1_cells p1_width p1_most p1_cells p1_rows)) hx hb hml hown hts hK hA hl hS (c_X2_letsPass l D cI cB cZ l2 q2 q3 _ _ hq4) (va_cwS 3 hts gX7_fitsMarks_X2_letsPass rfl rfl rfl (by decide +kernel) ⟨Nat.le_of_ble_eq_true rfl, Nat.le_of_ble_eq_true rfl⟩) [] rfl rfl rfl rfl rfl rfl (Nat.le_of_ble_eq_true rfl) dX7_fitsMarks_31 (fun H locs hS => ?_)
    refine lv_aload_n hx hb dX7_fitsMarks_34 rfl (lv_at hl 2 rfl) ?_
    refine lv_iload_n hx hb dX7_fitsMarks_35 rfl (lv_at hl 4 rfl) ?_
    refine lv_iconst (v := (2 : Int32)) hx hb dX7_fitsMarks_36 (by decide) ?_
    obtain ⟨q5, hq5, h⟩ := s_bind h
    refine s_calliV (r := q5) (As := [.int l3, .int (2 : Int32)]) (rest := [.int q4]) (wc := (wd_X5_cell cI cB cZ a_p1 a_p1_cells n_p1_cells p1_width p1_most p1_cells p1_rows)) (w1 := (wd_X5_cell cI cB cZ a_p1 a_p1_cells n_p1_cells p1_width p1_most p1_cells p1_rows)) (ws' := (wd_X7_fitsMarks cI cB cZ a_this a_p1 a_p1_cells n_p1_cells p1_width p1_most p1_cells p1_rows)) hx hb hml hown hts hK hA hl hS (c_X5_cell l D cI cB cZ a_p1 a_p1_cells n_p1_cells p1_width p1_most p1_cells p1_rows l3 (2 : Int32) _ _ hq5) (cwV 2 hts gX7_fitsMarks_X5_cell rfl rfl rfl (by decide +kernel) ⟨Nat.le_of_ble_eq_true rfl, Nat.le_of_ble_eq_true rfl⟩) 0 rfl rfl [0, 1] rfl rfl rfl rfl rfl rfl (Nat.le_of_ble_eq_true rfl) dX7_fitsMarks_37 (fun H locs hS => ?_)
    refine lv_icmp_eq (tgt := 45) hx hb dX7_fitsMarks_40 (by decide) (fun c6 => ?_) (fun c6 => ?_)
    · replace h := s_yes c6 h
      refine lv_iinc (v := (l3 + (1 : Int32))) (lv' := [(3, .int (l3 + (1 : Int32))), (5, .int q3), (4, .int q2), (1, .ref a_p1), (2, .int l2)]) hx hb dX7_fitsMarks_45 hl (k := 4) rfl rfl (by decide) rfl (fun ls hl => ?_)
      refine lv_goto (tgt := 2) hx hb dX7_fitsMarks_48 (by decide) ?_
      exact ih l2 (l3 + (1 : Int32)) _ _ _ h hS (lv_sub hl [3, 4, 0] rfl)
    replace h := s_no c6 h
    refine lv_iconst (v := (0 : Int32)) hx hb dX7_fitsMarks_43 (by decide) ?_
    obtain rfl := Option.some.inj h
    exact hend _ _ _ _ dX7_fitsMarks_44 (Or.inl rfl) hS
def f_X7_fitsMarks (n_p1_cells : Nat) (p1_width : Int32) (p1_cells : (Nat → Int32)) (p1_rows : Int32)  (p2 : Int32) : Option (Int32) := f_X7_fitsMarks_b2  n_p1_cells p1_width p1_cells p1_rows s_fuel p2 (0 : Int32)
set_option maxHeartbeats 4000000 in
set_option maxRecDepth 100000 in
theorem c_X7_fitsMarks (l : Launch) (D : va_G) (cI cB cZ : ClassId) (a_this : Nat) (a_p1 : Nat) (a_p1_cells : Nat) (n_p1_cells : Nat) (p1_width : Int32) (p1_most : Int32) (p1_cells : (Nat → Int32)) (p1_rows : Int32) (p2 : Int32) (rv : Int32) (sz : Nat) (hf : f_X7_fitsMarks n_p1_cells p1_width p1_cells p1_rows p2 = some rv) : Met l yX7_fitsMarks wsX7_fitsMarks rm_X7_fitsMarks (sPc D vwCl (s_tys cI cB cZ) [.ref a_this, .ref a_p1, .int p2] (wd_X7_fitsMarks cI cB cZ a_this a_p1 a_p1_cells n_p1_cells p1_width p1_most p1_cells p1_rows) sz) (sQi D vwCl (wd_X7_fitsMarks cI cB cZ a_this a_p1 a_p1_cells n_p1_cells p1_width p1_most p1_cells p1_rows) (wd_X7_fitsMarks cI cB cZ a_this a_p1 a_p1_cells n_p1_cells p1_width p1_most p1_cells p1_rows) sz rv) 0 0 (va_A (wd_X7_fitsMarks cI cB cZ a_this a_p1 a_p1_cells n_p1_cells p1_width p1_most p1_cells p1_rows) sz) := by
  refine s_enter_z (cc := cX7_fitsMarks) (nL := 6) (r := rv) (by decide) rfl (Nat.le_of_ble_eq_true rfl) ?_
  intro p e s m args below meth c A Q C0 hend ls hl hS
  have h := hf
  clear hf
  replace hl : lv_has ls 6 [(0, .ref a_this), (1, .ref a_p1), (2, .int p2)] := hl
  unfold f_X7_fitsMarks at h
  obtain ⟨hx, hb, hml, hown, hts, hK, hA⟩ := id C0
  have inX5 : ∀ w ∈ u_ws RX5 TX5 4, w ∈ wsX7_fitsMarks := inX5_X7_fitsMarks
  refine lv_iconst (v := (0 : Int32)) hx hb dX7_fitsMarks_0 (by decide) ?_
  refine lv_istore_n (lv' := [(3, .int (0 : Int32)), (0, .ref a_this), (1, .ref a_p1), (2, .int p2)]) hx hb dX7_fitsMarks_1 rfl hl (by decide) rfl (fun ls hl => ?_)
  exact w_X7_fitsMarks_b2 C0 hend  s_fuel p2 (0 : Int32) _ _ _ h hS (lv_sub hl [2, 3, 0] rfl)

-- InnTurned$Wits.hostKinds(LInnTurned$House;)I
def wd_X7_hostKinds (cI cB cZ : ClassId) (a_this : Nat) (a_answers : Nat) (a_p1 : Nat) (a_p1_wets : Nat) (a_p1_guests : Nat) (a_p1_sights : Nat) (a_p1_remarks : Nat) (a_p1_marks : Nat) (a_p1_marks_cells : Nat) (a_p1_past : Nat)  (p1_marks_cells : (Nat → Int32)) (p1_marks_rows : Int32) (p1_host : Int32) (p1_rooms : Int32) (p1_night : Int32) (p1_wheels : Int32) (p1_turned : Int32) : va_W := [(a_this, .inr (5, [.ref a_answers])), (a_p1, .inr (0, [.ref a_p1_wets, .ref a_p1_guests, .ref a_p1_sights, .ref a_p1_remarks, .ref a_p1_marks, .ref a_p1_past, .int p1_host, .int p1_rooms, .int p1_night, .int p1_wheels, .int p1_turned])), (a_p1_marks, .inr (3, [.int 3, .int 6, .ref a_p1_marks_cells, .int p1_marks_rows])), (a_p1_marks_cells, .inl (cI, 18, .inl p1_marks_cells))]
abbrev rm_X7_hostKinds : Room := { frames := 2, cells := 0, slots := 0, locals := 50 }
set_option maxRecDepth 20000 in
theorem inX1_X7_hostKinds : ∀ w ∈ u_ws RX1 TX1 11, w ∈ wsX7_hostKinds := by decide +kernel
set_option maxRecDepth 20000 in
theorem inX5_X7_hostKinds : ∀ w ∈ u_ws RX5 TX5 4, w ∈ wsX7_hostKinds := by decide +kernel
set_option maxRecDepth 20000 in
theorem inX7_X7_hostKinds : ∀ w ∈ u_ws RX7 TX7 1, w ∈ wsX7_hostKinds := by decide +kernel
def f_X7_hostKinds_b28 (k_b4 : Int32 → Int32 → Option (Int32))  (p1_marks_cells : (Nat → Int32)) (p1_marks_rows : Int32)  (l2 : Int32) (l3 : Int32) : Option (Int32) := k_b4 l2 (l3 + (1 : Int32))
set_option maxHeartbeats 4000000 in
set_option maxRecDepth 100000 in
theorem w_X7_hostKinds_b28 {p : Program} {l : Launch} {e : Env} {s : State} {m : MethodId} {args : Array Value} {below : List Frame} {meth : Method} {c : Code} {A : Nat → Prop} {Q : State → Prop} {D : va_G} {cI cB cZ : ClassId} {a_this a_answers a_p1 a_p1_wets a_p1_guests a_p1_sights a_p1_remarks a_p1_marks a_p1_marks_cells a_p1_past : Nat} {p1_marks_cells : (Nat → Int32)} {p1_marks_rows : Int32} {p1_host : Int32} {p1_rooms : Int32} {p1_night : Int32} {p1_wheels : Int32} {p1_turned : Int32} (C0 : Cx p s m args c cX7_hostKinds 4 RX7 wsX7_hostKinds D (s_tys cI cB cZ) A) {rv : Int32} (hend : ∀ (pc : Nat) (H : Heap) (locs : List Loc) (ls : Array Slot), decode cX7_hostKinds pc = .ok (.ireturn, 1) → sS D vwCl A s.heap (wd_X7_hostKinds cI cB cZ a_this a_answers a_p1 a_p1_wets a_p1_guests a_p1_sights a_p1_remarks a_p1_marks a_p1_marks_cells a_p1_past p1_marks_cells p1_marks_rows p1_host p1_rooms p1_night p1_wheels p1_turned) H locs → W p l e rm_X7_hostKinds s m args below meth c H locs 0 0 Q (F0 m pc ls [.int rv])) (k_b4 : Int32 → Int32 → Option (Int32)) (hk_b4 : ∀  (l2 : Int32) (l3 : Int32) (H : Heap) (locs : List Loc) (ls : Array Slot), k_b4 l2 l3 = some rv → sS D vwCl A s.heap (wd_X7_hostKinds cI cB cZ a_this a_answers a_p1 a_p1_wets a_p1_guests a_p1_sights a_p1_remarks a_p1_marks a_p1_marks_cells a_p1_past p1_marks_cells p1_marks_rows p1_host p1_rooms p1_night p1_wheels p1_turned) H locs → lv_has ls 4 [(0, .ref a_this), (1, .ref a_p1), (2, .int l2), (3, .int l3)] → W p l e rm_X7_hostKinds s m args below meth c H locs 0 0 Q (F0 m 4 ls [])) : ∀  (l2 : Int32) (l3 : Int32) (H : Heap) (locs : List Loc) (ls : Array Slot), f_X7_hostKinds_b28 k_b4 p1_marks_cells p1_marks_rows l2 l3 = some rv → sS D vwCl A s.heap (wd_X7_hostKinds cI cB cZ a_this a_answers a_p1 a_p1_wets a_p1_guests a_p1_sights a_p1_remarks a_p1_marks a_p1_marks_cells a_p1_past p1_marks_cells p1_marks_rows p1_host p1_rooms p1_night p1_wheels p1_turned) H locs → lv_has ls 4 [(0, .ref a_this), (1, .ref a_p1), (2, .int l2), (3, .int l3)] → W p l e rm_X7_hostKinds s m args below meth c H locs 0 0 Q (F0 m 28 ls []) := by
  obtain ⟨hx, hb, hml, hown, hts, hK, hA⟩ := id C0
  have inX1 : ∀ w ∈ u_ws RX1 TX1 11, w ∈ wsX7_hostKinds := inX1_X7_hostKinds
  have inX5 : ∀ w ∈ u_ws RX5 TX5 4, w ∈ wsX7_hostKinds := inX5_X7_hostKinds
  have inX7 : ∀ w ∈ u_ws RX7 TX7 1, w ∈ wsX7_hostKinds := inX7_X7_hostKinds
  intro l2 l3 H locs ls h hS hl
  unfold f_X7_hostKinds_b28 at h
  refine lv_iinc (v := (l3 + (1 : Int32))) (lv' := [(3, .int (l3 + (1 : Int32))), (0, .ref a_this), (1, .ref a_p1), (2, .int l2)]) hx hb dX7_hostKinds_28 hl (k := 3) rfl rfl (by decide) rfl (fun ls hl => ?_)
  refine lv_goto (tgt := 4) hx hb dX7_hostKinds_31 (by decide) ?_
  exact hk_b4 l2 (l3 + (1 : Int32)) _ _ _ h hS (lv_sub hl [1, 2, 3, 0] rfl)
def f_X7_hostKinds_b4  (p1_marks_cells : (Nat → Int32)) (p1_marks_rows : Int32) : Nat → Int32 → Int32 → Option (Int32)
  | 0, _, _ => none
  | fu + 1, l2, l3 => (if (6 : Int32) ≤ l3 then some (l2) else ((f_X7_fitsMarks 18 (3 : Int32) p1_marks_cells p1_marks_rows l3).bind fun q2 => (if q2 = 0 then f_X7_hostKinds_b28 (f_X7_hostKinds_b4 p1_marks_cells p1_marks_rows fu) p1_marks_cells p1_marks_rows l2 l3 else f_X7_hostKinds_b28 (f_X7_hostKinds_b4 p1_marks_cells p1_marks_rows fu) p1_marks_cells p1_marks_rows (l2 ||| ((1 : Int32) <<< (l3 &&& 31))) l3)))
set_option maxHeartbeats 4000000 in
set_option maxRecDepth 100000 in
theorem w_X7_hostKinds_b4 {p : Program} {l : Launch} {e : Env} {s : State} {m : MethodId} {args : Array Value} {below : List Frame} {meth : Method} {c : Code} {A : Nat → Prop} {Q : State → Prop} {D : va_G} {cI cB cZ : ClassId} {a_this a_answers a_p1 a_p1_wets a_p1_guests a_p1_sights a_p1_remarks a_p1_marks a_p1_marks_cells a_p1_past : Nat} {p1_marks_cells : (Nat → Int32)} {p1_marks_rows : Int32} {p1_host : Int32} {p1_rooms : Int32} {p1_night : Int32} {p1_wheels : Int32} {p1_turned : Int32} (C0 : Cx p s m args c cX7_hostKinds 4 RX7 wsX7_hostKinds D (s_tys cI cB cZ) A) {rv : Int32} (hend : ∀ (pc : Nat) (H : Heap) (locs : List Loc) (ls : Array Slot), decode cX7_hostKinds pc = .ok (.ireturn, 1) → sS D vwCl A s.heap (wd_X7_hostKinds cI cB cZ a_this a_answers a_p1 a_p1_wets a_p1_guests a_p1_sights a_p1_remarks a_p1_marks a_p1_marks_cells a_p1_past p1_marks_cells p1_marks_rows p1_host p1_rooms p1_night p1_wheels p1_turned) H locs → W p l e rm_X7_hostKinds s m args below meth c H locs 0 0 Q (F0 m pc ls [.int rv])) : ∀ (fu : Nat)  (l2 : Int32) (l3 : Int32) (H : Heap) (locs : List Loc) (ls : Array Slot), f_X7_hostKinds_b4 p1_marks_cells p1_marks_rows fu l2 l3 = some rv → sS D vwCl A s.heap (wd_X7_hostKinds cI cB cZ a_this a_answers a_p1 a_p1_wets a_p1_guests a_p1_sights a_p1_remarks a_p1_marks a_p1_marks_cells a_p1_past p1_marks_cells p1_marks_rows p1_host p1_rooms p1_night p1_wheels p1_turned) H locs → lv_has ls 4 [(0, .ref a_this), (1, .ref a_p1), (2, .int l2), (3, .int l3)] → W p l e rm_X7_hostKinds s m args below meth c H locs 0 0 Q (F0 m 4 ls []) := by
  obtain ⟨hx, hb, hml, hown, hts, hK, hA⟩ := id C0
  have inX1 : ∀ w ∈ u_ws RX1 TX1 11, w ∈ wsX7_hostKinds := inX1_X7_hostKinds
  have inX5 : ∀ w ∈ u_ws RX5 TX5 4, w ∈ wsX7_hostKinds := inX5_X7_hostKinds
  have inX7 : ∀ w ∈ u_ws RX7 TX7 1, w ∈ wsX7_hostKinds := inX7_X7_hostKinds
  intro fu
  induction fu with
  | zero => intro l2 l3 H locs ls h; cases h
  | succ fu ih =>
    intro l2 l3 H locs ls h hS hl
    rw [f_X7_hostKinds_b4] at h
    refine lv_iload_n hx hb dX7_hostKinds_4 rfl (lv_at hl 3 rfl) ?_
    refine lv_bipush (v := (6 : Int32)) hx hb dX7_hostKinds_5 (by decide) ?_
    refine lv_icmp_ge (tgt := 34) hx hb dX7_hostKinds_7 (by decide) (fun c1 => ?_) (fun c1 => ?_)
    · replace h := s_yes c1 h
      refine lv_iload_n hx hb dX7_hostKinds_34 rfl (lv_at hl 2 rfl) ?_
      obtain rfl := Option.some.inj h
      exact hend _ _ _ _ dX7_hostKinds_35 hS
    replace h := s_no c1 h
    refine lv_aload_n hx hb dX7_hostKinds_10 rfl (lv_at hl 0 rfl) ?_
    refine lv_aload_n hx hb dX7_hostKinds_11 rfl (lv_at hl 1 rfl) ?_
    refine s_getN (C := RX1) (T := TX1) (N := 11) hx hb hts inX1 hown hK hS 1 rfl rfl 4 (by decide) 14 rfl rfl rfl dX7_hostKinds_12 ?_
    refine lv_iload_n hx hb dX7_hostKinds_15 rfl (lv_at hl 3 rfl) ?_
    obtain ⟨q2, hq2, h⟩ := s_bind h
    refine s_calliV (r := q2) (As := [.ref a_p1_marks, .int l3]) (rest := []) (wc := (wd_X7_fitsMarks cI cB cZ a_this a_p1_marks a_p1_marks_cells 18 (3 : Int32) (6 : Int32) p1_marks_cells p1_marks_rows)) (w1 := (wd_X7_fitsMarks cI cB cZ a_this a_p1_marks a_p1_marks_cells 18 (3 : Int32) (6 : Int32) p1_marks_cells p1_marks_rows)) (ws' := (wd_X7_hostKinds cI cB cZ a_this a_answers a_p1 a_p1_wets a_p1_guests a_p1_sights a_p1_remarks a_p1_marks a_p1_marks_cells a_p1_past p1_marks_cells p1_marks_rows p1_host p1_rooms p1_night p1_wheels p1_turned)) hx hb hml hown hts hK hA hl hS (c_X7_fitsMarks l D cI cB cZ a_this a_p1_marks a_p1_marks_cells 18 (3 : Int32) (6 : Int32) p1_marks_cells p1_marks_rows l3 _ _ hq2) (cwV 2 hts gX7_hostKinds_X7_fitsMarks rfl rfl rfl (by decide +kernel) ⟨Nat.le_of_ble_eq_true rfl, Nat.le_of_ble_eq_true rfl⟩) 0 rfl rfl [2, 3] rfl rfl rfl rfl rfl rfl (Nat.le_of_ble_eq_true rfl) dX7_hostKinds_16 (fun H locs hS => ?_)
    refine lv_if_eq (tgt := 28) hx hb dX7_hostKinds_19 (by decide) (fun c3 => ?_) (fun c3 => ?_)
    · replace h := s_yes c3 h
      exact w_X7_hostKinds_b28 C0 hend (f_X7_hostKinds_b4 p1_marks_cells p1_marks_rows fu) ih l2 l3 _ _ _ h hS (lv_sub hl [0, 1, 2, 3] rfl)
    replace h := s_no c3 h
    refine lv_iload_n hx hb dX7_hostKinds_22 rfl (lv_at hl 2 rfl) ?_
    refine lv_iconst (v := (1 : Int32)) hx hb dX7_hostKinds_23 (by decide) ?_
    refine lv_iload_n hx hb dX7_hostKinds_24 rfl (lv_at hl 3 rfl) ?_
    refine lv_ishl hx hb dX7_hostKinds_25 ?_
    refine lv_ior hx hb dX7_hostKinds_26 ?_
    refine lv_istore_n (lv' := [(2, .int (l2 ||| ((1 : Int32) <<< (l3 &&& 31)))), (0, .ref a_this), (1, .ref a_p1), (3, .int l3)]) hx hb dX7_hostKinds_27 rfl hl (by decide) rfl (fun ls hl => ?_)
    exact w_X7_hostKinds_b28 C0 hend (f_X7_hostKinds_b4 p1_marks_cells p1_marks_rows fu) ih (l2 ||| ((1 : Int32) <<< (l3 &&& 31))) l3 _ _ _ h hS (lv_sub hl [1, 2, 0, 3] rfl)
def f_X7_hostKinds  (p1_marks_cells : (Nat → Int32)) (p1_marks_rows : Int32)  : Option (Int32) := f_X7_hostKinds_b4  p1_marks_cells p1_marks_rows s_fuel (0 : Int32) (0 : Int32)
set_option maxHeartbeats 4000000 in
set_option maxRecDepth 100000 in
theorem c_X7_hostKinds (l : Launch) (D : va_G) (cI cB cZ : ClassId) (a_this : Nat) (a_answers : Nat) (a_p1 : Nat) (a_p1_wets : Nat) (a_p1_guests : Nat) (a_p1_sights : Nat) (a_p1_remarks : Nat) (a_p1_marks : Nat) (a_p1_marks_cells : Nat) (a_p1_past : Nat) (p1_marks_cells : (Nat → Int32)) (p1_marks_rows : Int32) (p1_host : Int32) (p1_rooms : Int32) (p1_night : Int32) (p1_wheels : Int32) (p1_turned : Int32) (rv : Int32) (sz : Nat) (hf : f_X7_hostKinds p1_marks_cells p1_marks_rows = some rv) : Met l yX7_hostKinds wsX7_hostKinds rm_X7_hostKinds (sPc D vwCl (s_tys cI cB cZ) [.ref a_this, .ref a_p1] (wd_X7_hostKinds cI cB cZ a_this a_answers a_p1 a_p1_wets a_p1_guests a_p1_sights a_p1_remarks a_p1_marks a_p1_marks_cells a_p1_past p1_marks_cells p1_marks_rows p1_host p1_rooms p1_night p1_wheels p1_turned) sz) (sQi D vwCl (wd_X7_hostKinds cI cB cZ a_this a_answers a_p1 a_p1_wets a_p1_guests a_p1_sights a_p1_remarks a_p1_marks a_p1_marks_cells a_p1_past p1_marks_cells p1_marks_rows p1_host p1_rooms p1_night p1_wheels p1_turned) (wd_X7_hostKinds cI cB cZ a_this a_answers a_p1 a_p1_wets a_p1_guests a_p1_sights a_p1_remarks a_p1_marks a_p1_marks_cells a_p1_past p1_marks_cells p1_marks_rows p1_host p1_rooms p1_night p1_wheels p1_turned) sz rv) 0 0 (va_A (wd_X7_hostKinds cI cB cZ a_this a_answers a_p1 a_p1_wets a_p1_guests a_p1_sights a_p1_remarks a_p1_marks a_p1_marks_cells a_p1_past p1_marks_cells p1_marks_rows p1_host p1_rooms p1_night p1_wheels p1_turned) sz) := by
  refine s_enter_n (cc := cX7_hostKinds) (nL := 4) (r := rv) (by decide) rfl (Nat.le_of_ble_eq_true rfl) ?_
  intro p e s m args below meth c A Q C0 hend ls hl hS
  have h := hf
  clear hf
  replace hl : lv_has ls 4 [(0, .ref a_this), (1, .ref a_p1)] := hl
  unfold f_X7_hostKinds at h
  obtain ⟨hx, hb, hml, hown, hts, hK, hA⟩ := id C0
  have inX1 : ∀ w ∈ u_ws RX1 TX1 11, w ∈ wsX7_hostKinds := inX1_X7_hostKinds
  have inX5 : ∀ w ∈ u_ws RX5 TX5 4, w ∈ wsX7_hostKinds := inX5_X7_hostKinds
  have inX7 : ∀ w ∈ u_ws RX7 TX7 1, w ∈ wsX7_hostKinds := inX7_X7_hostKinds
  refine lv_iconst (v := (0 : Int32)) hx hb dX7_hostKinds_0 (by decide) ?_
  refine lv_istore_n (lv' := [(2, .int (0 : Int32)), (0, .ref a_this), (1, .ref a_p1)]) hx hb dX7_hostKinds_1 rfl hl (by decide) rfl (fun ls hl => ?_)
  refine lv_iconst (v := (0 : Int32)) hx hb dX7_hostKinds_2 (by decide) ?_
  refine lv_istore_n (lv' := [(3, .int (0 : Int32)), (2, .int (0 : Int32)), (0, .ref a_this), (1, .ref a_p1)]) hx hb dX7_hostKinds_3 rfl hl (by decide) rfl (fun ls hl => ?_)
  exact w_X7_hostKinds_b4 C0 hend  s_fuel (0 : Int32) (0 : Int32) _ _ _ h hS (lv_sub hl [2, 3, 1, 0] rfl)

-- InnTurned$Wits.bestQuestion(LInnTurned$House;)I
def wd_X7_bestQuestion (cI cB cZ : ClassId) (a_this : Nat) (a_answers : Nat) (a_p1 : Nat) (a_p1_wets : Nat) (a_p1_guests : Nat) (a_p1_sights : Nat) (a_p1_remarks : Nat) (a_p1_marks : Nat) (a_p1_marks_cells : Nat) (a_p1_past : Nat)  (answers : (Nat → Int32)) (p1_marks_cells : (Nat → Int32)) (p1_marks_rows : Int32) (p1_host : Int32) (p1_rooms : Int32) (p1_night : Int32) (p1_wheels : Int32) (p1_turned : Int32) : va_W := [(a_this, .inr (5, [.ref a_answers])), (a_answers, .inl (cI, 6, .inl answers)), (a_p1, .inr (0, [.ref a_p1_wets, .ref a_p1_guests, .ref a_p1_sights, .ref a_p1_remarks, .ref a_p1_marks, .ref a_p1_past, .int p1_host, .int p1_rooms, .int p1_night, .int p1_wheels, .int p1_turned])), (a_p1_marks, .inr (3, [.int 3, .int 6, .ref a_p1_marks_cells, .int p1_marks_rows])), (a_p1_marks_cells, .inl (cI, 18, .inl p1_marks_cells))]
abbrev rm_X7_bestQuestion : Room := { frames := 3, cells := 0, slots := 0, locals := 73 }
set_option maxRecDepth 20000 in
theorem inX1_X7_bestQuestion : ∀ w ∈ u_ws RX1 TX1 11, w ∈ wsX7_bestQuestion := by decide +kernel
set_option maxRecDepth 20000 in
theorem inX5_X7_bestQuestion : ∀ w ∈ u_ws RX5 TX5 4, w ∈ wsX7_bestQuestion := by decide +kernel
set_option maxRecDepth 20000 in
theorem inX7_X7_bestQuestion : ∀ w ∈ u_ws RX7 TX7 1, w ∈ wsX7_bestQuestion := by decide +kernel
def f_X7_bestQuestion_b96 (k_b21 : (Nat → Int32) → Int32 → Int32 → Int32 → Int32 → Option (Int32 × (Nat → Int32))) (k_b30 : (Nat → Int32) → Int32 → Int32 → Int32 → Int32 → Int32 → Option (Int32 × (Nat → Int32)))  (p1_marks_cells : (Nat → Int32)) (p1_marks_rows : Int32) (answers : (Nat → Int32)) (l2 : Int32) (l3 : Int32) (l4 : Int32) (l5 : Int32) (l6 : Int32) : Option (Int32 × (Nat → Int32)) := k_b30 answers l2 l3 l4 l5 (l6 + (1 : Int32))
set_option maxHeartbeats 4000000 in
set_option maxRecDepth 100000 in
theorem w_X7_bestQuestion_b96 {p : Program} {l : Launch} {e : Env} {s : State} {m : MethodId} {args : Array Value} {below : List Frame} {meth : Method} {c : Code} {A : Nat → Prop} {Q : State → Prop} {D : va_G} {cI cB cZ : ClassId} {a_this a_answers a_p1 a_p1_wets a_p1_guests a_p1_sights a_p1_remarks a_p1_marks a_p1_marks_cells a_p1_past : Nat} {p1_marks_cells : (Nat → Int32)} {p1_marks_rows : Int32} {p1_host : Int32} {p1_rooms : Int32} {p1_night : Int32} {p1_wheels : Int32} {p1_turned : Int32} (C0 : Cx p s m args c cX7_bestQuestion 8 RX7 wsX7_bestQuestion D (s_tys cI cB cZ) A) {rv : Int32 × (Nat → Int32)} (hend : ∀ (pc : Nat) (H : Heap) (locs : List Loc) (ls : Array Slot), decode cX7_bestQuestion pc = .ok (.ireturn, 1) → sS D vwCl A s.heap (wd_X7_bestQuestion cI cB cZ a_this a_answers a_p1 a_p1_wets a_p1_guests a_p1_sights a_p1_remarks a_p1_marks a_p1_marks_cells a_p1_past rv.2 p1_marks_cells p1_marks_rows p1_host p1_rooms p1_night p1_wheels p1_turned) H locs → W p l e rm_X7_bestQuestion s m args below meth c H locs 0 0 Q (F0 m pc ls [.int rv.1])) (k_b21 : (Nat → Int32) → Int32 → Int32 → Int32 → Int32 → Option (Int32 × (Nat → Int32))) (hk_b21 : ∀ (answers : (Nat → Int32)) (l2 : Int32) (l3 : Int32) (l4 : Int32) (l5 : Int32) (H : Heap) (locs : List Loc) (ls : Array Slot), k_b21 answers l2 l3 l4 l5 = some rv → sS D vwCl A s.heap (wd_X7_bestQuestion cI cB cZ a_this a_answers a_p1 a_p1_wets a_p1_guests a_p1_sights a_p1_remarks a_p1_marks a_p1_marks_cells a_p1_past answers p1_marks_cells p1_marks_rows p1_host p1_rooms p1_night p1_wheels p1_turned) H locs → lv_has ls 8 [(0, .ref a_this), (2, .int l2), (3, .int l3), (4, .int l4), (5, .int l5)] → W p l e rm_X7_bestQuestion s m args below meth c H locs 0 0 Q (F0 m 21 ls [])) (k_b30 : (Nat → Int32) → Int32 → Int32 → Int32 → Int32 → Int32 → Option (Int32 × (Nat → Int32))) (hk_b30 : ∀ (answers : (Nat → Int32)) (l2 : Int32) (l3 : Int32) (l4 : Int32) (l5 : Int32) (l6 : Int32) (H : Heap) (locs : List Loc) (ls : Array Slot), k_b30 answers l2 l3 l4 l5 l6 = some rv → sS D vwCl A s.heap (wd_X7_bestQuestion cI cB cZ a_this a_answers a_p1 a_p1_wets a_p1_guests a_p1_sights a_p1_remarks a_p1_marks a_p1_marks_cells a_p1_past answers p1_marks_cells p1_marks_rows p1_host p1_rooms p1_night p1_wheels p1_turned) H locs → lv_has ls 8 [(0, .ref a_this), (2, .int l2), (3, .int l3), (4, .int l4), (5, .int l5), (6, .int l6)] → W p l e rm_X7_bestQuestion s m args below meth c H locs 0 0 Q (F0 m 30 ls [])) : ∀ (answers : (Nat → Int32)) (l2 : Int32) (l3 : Int32) (l4 : Int32) (l5 : Int32) (l6 : Int32) (H : Heap) (locs : List Loc) (ls : Array Slot), f_X7_bestQuestion_b96 k_b21 k_b30 p1_marks_cells p1_marks_rows answers l2 l3 l4 l5 l6 = some rv → sS D vwCl A s.heap (wd_X7_bestQuestion cI cB cZ a_this a_answers a_p1 a_p1_wets a_p1_guests a_p1_sights a_p1_remarks a_p1_marks a_p1_marks_cells a_p1_past answers p1_marks_cells p1_marks_rows p1_host p1_rooms p1_night p1_wheels p1_turned) H locs → lv_has ls 8 [(0, .ref a_this), (2, .int l2), (3, .int l3), (4, .int l4), (5, .int l5), (6, .int l6)] → W p l e rm_X7_bestQuestion s m args below meth c H locs 0 0 Q (F0 m 96 ls []) := by
  obtain ⟨hx, hb, hml, hown, hts, hK, hA⟩ := id C0
  have inX1 : ∀ w ∈ u_ws RX1 TX1 11, w ∈ wsX7_bestQuestion := inX1_X7_bestQuestion
  have inX5 : ∀ w ∈ u_ws RX5 TX5 4, w ∈ wsX7_bestQuestion := inX5_X7_bestQuestion
  have inX7 : ∀ w ∈ u_ws RX7 TX7 1, w ∈ wsX7_bestQuestion := inX7_X7_bestQuestion
  intro answers l2 l3 l4 l5 l6 H locs ls h hS hl
  unfold f_X7_bestQuestion_b96 at h
  refine lv_iinc (v := (l6 + (1 : Int32))) (lv' := [(6, .int (l6 + (1 : Int32))), (0, .ref a_this), (2, .int l2), (3, .int l3), (4, .int l4), (5, .int l5)]) hx hb dX7_bestQuestion_96 hl (k := 5) rfl rfl (by decide) rfl (fun ls hl => ?_)
  refine lv_goto (tgt := 30) hx hb dX7_bestQuestion_99 (by decide) ?_
  exact hk_b30 answers l2 l3 l4 l5 (l6 + (1 : Int32)) _ _ _ h hS (lv_sub hl [1, 2, 3, 4, 5, 0] rfl)
def f_X7_bestQuestion_b40 (k_b21 : (Nat → Int32) → Int32 → Int32 → Int32 → Int32 → Option (Int32 × (Nat → Int32))) (k_b30 : (Nat → Int32) → Int32 → Int32 → Int32 → Int32 → Int32 → Option (Int32 × (Nat → Int32)))  (p1_marks_cells : (Nat → Int32)) (p1_marks_rows : Int32) : Nat → (Nat → Int32) → Int32 → Int32 → Int32 → Int32 → Int32 → Int32 → Option (Int32 × (Nat → Int32))
  | 0, _, _, _, _, _, _, _ => none
  | fu + 1, answers, l2, l3, l4, l5, l6, l7 => (if (6 : Int32) ≤ l7 then ((f_X7_mostAlike answers l2).bind fun q2 => (if l4 ≤ q2 then f_X7_bestQuestion_b96 k_b21 k_b30 p1_marks_cells p1_marks_rows answers l2 l3 l4 l5 l6 else f_X7_bestQuestion_b96 k_b21 k_b30 p1_marks_cells p1_marks_rows answers l2 (((10 : Int32) * l5) + l6) q2 l5 l6)) else ((f_X2_letsPass l7 l5 l6).bind fun q4 => (if ¬ (l7 < 0 ∨ 6 ≤ (Int32.toNatClampNeg l7)) then (f_X7_bestQuestion_b40 k_b21 k_b30 p1_marks_cells p1_marks_rows fu) (upd answers (Int32.toNatClampNeg l7) q4) l2 l3 l4 l5 l6 (l7 + (1 : Int32)) else none)))
set_option maxHeartbeats 4000000 in
set_option maxRecDepth 100000 in
theorem w_X7_bestQuestion_b40 {p : Program} {l : Launch} {e : Env} {s : State} {m : MethodId} {args : Array Value} {below : List Frame} {meth : Method} {c : Code} {A : Nat → Prop} {Q : State → Prop} {D : va_G} {cI cB cZ : ClassId} {a_this a_answers a_p1 a_p1_wets a_p1_guests a_p1_sights a_p1_remarks a_p1_marks a_p1_marks_cells a_p1_past : Nat} {p1_marks_cells : (Nat → Int32)} {p1_marks_rows : Int32} {p1_host : Int32} {p1_rooms : Int32} {p1_night : Int32} {p1_wheels : Int32} {p1_turned : Int32} (C0 : Cx p s m args c cX7_bestQuestion 8 RX7 wsX7_bestQuestion D (s_tys cI cB cZ) A) {rv : Int32 × (Nat → Int32)} (hend : ∀ (pc : Nat) (H : Heap) (locs : List Loc) (ls : Array Slot), decode cX7_bestQuestion pc = .ok (.ireturn, 1) → sS D vwCl A s.heap (wd_X7_bestQuestion cI cB cZ a_this a_answers a_p1 a_p1_wets a_p1_guests a_p1_sights a_p1_remarks a_p1_marks a_p1_marks_cells a_p1_past rv.2 p1_marks_cells p1_marks_rows p1_host p1_rooms p1_night p1_wheels p1_turned) H locs → W p l e rm_X7_bestQuestion s m args below meth c H locs 0 0 Q (F0 m pc ls [.int rv.1])) (k_b21 : (Nat → Int32) → Int32 → Int32 → Int32 → Int32 → Option (Int32 × (Nat → Int32))) (hk_b21 : ∀ (answers : (Nat → Int32)) (l2 : Int32) (l3 : Int32) (l4 : Int32) (l5 : Int32) (H : Heap) (locs : List Loc) (ls : Array Slot), k_b21 answers l2 l3 l4 l5 = some rv → sS D vwCl A s.heap (wd_X7_bestQuestion cI cB cZ a_this a_answers a_p1 a_p1_wets a_p1_guests a_p1_sights a_p1_remarks a_p1_marks a_p1_marks_cells a_p1_past answers p1_marks_cells p1_marks_rows p1_host p1_rooms p1_night p1_wheels p1_turned) H locs → lv_has ls 8 [(0, .ref a_this), (2, .int l2), (3, .int l3), (4, .int l4), (5, .int l5)] → W p l e rm_X7_bestQuestion s m args below meth c H locs 0 0 Q (F0 m 21 ls [])) (k_b30 : (Nat → Int32) → Int32 → Int32 → Int32 → Int32 → Int32 → Option (Int32 × (Nat → Int32))) (hk_b30 : ∀ (answers : (Nat → Int32)) (l2 : Int32) (l3 : Int32) (l4 : Int32) (l5 : Int32) (l6 : Int32) (H : Heap) (locs : List Loc) (ls : Array Slot), k_b30 answers l2 l3 l4 l5 l6 = some rv → sS D vwCl A s.heap (wd_X7_bestQuestion cI cB cZ a_this a_answers a_p1 a_p1_wets a_p1_guests a_p1_sights a_p1_remarks a_p1_marks a_p1_marks_cells a_p1_past answers p1_marks_cells p1_marks_rows p1_host p1_rooms p1_night p1_wheels p1_turned) H locs → lv_has ls 8 [(0, .ref a_this), (2, .int l2), (3, .int l3), (4, .int l4), (5, .int l5), (6, .int l6)] → W p l e rm_X7_bestQuestion s m args below meth c H locs 0 0 Q (F0 m 30 ls [])) : ∀ (fu : Nat) (answers : (Nat → Int32)) (l2 : Int32) (l3 : Int32) (l4 : Int32) (l5 : Int32) (l6 : Int32) (l7 : Int32) (H : Heap) (locs : List Loc) (ls : Array Slot), f_X7_bestQuestion_b40 k_b21 k_b30 p1_marks_cells p1_marks_rows fu answers l2 l3 l4 l5 l6 l7 = some rv → sS D vwCl A s.heap (wd_X7_bestQuestion cI cB cZ a_this a_answers a_p1 a_p1_wets a_p1_guests a_p1_sights a_p1_remarks a_p1_marks a_p1_marks_cells a_p1_past answers p1_marks_cells p1_marks_rows p1_host p1_rooms p1_night p1_wheels p1_turned) H locs → lv_has ls 8 [(0, .ref a_this), (2, .int l2), (3, .int l3), (4, .int l4), (5, .int l5), (6, .int l6), (7, .int l7)] → W p l e rm_X7_bestQuestion s m args below meth c H locs 0 0 Q (F0 m 40 ls []) := by
  obtain ⟨hx, hb, hml, hown, hts, hK, hA⟩ := id C0
  have inX1 : ∀ w ∈ u_ws RX1 TX1 11, w ∈ wsX7_bestQuestion := inX1_X7_bestQuestion
  have inX5 : ∀ w ∈ u_ws RX5 TX5 4, w ∈ wsX7_bestQuestion := inX5_X7_bestQuestion
  have inX7 : ∀ w ∈ u_ws RX7 TX7 1, w ∈ wsX7_bestQuestion := inX7_X7_bestQuestion
  intro fu
  induction fu with
  | zero => intro answers l2 l3 l4 l5 l6 l7 H locs ls h; cases h
  | succ fu ih =>
    intro answers l2 l3 l4 l5 l6 l7 H locs ls h hS hl
    rw [f_X7_bestQuestion_b40] at h
    refine lv_iload hx hb dX7_bestQuestion_40 (lv_at hl 6 rfl) ?_
    refine lv_bipush (v := (6 : Int32)) hx hb dX7_bestQuestion_42 (by decide) ?_
    refine lv_icmp_ge (tgt := 69) hx hb dX7_bestQuestion_44 (by decide) (fun c1 => ?_) (fun c1 => ?_)
    · replace h := s_yes c1 h
      refine lv_aload_n hx hb dX7_bestQuestion_69 rfl (lv_at hl 0 rfl) ?_
      refine lv_iload_n hx hb dX7_bestQuestion_70 rfl (lv_at hl 1 rfl) ?_
      obtain ⟨q2, hq2, h⟩ := s_bind h
      refine s_calliV (r := q2) (As := [.int l2]) (rest := []) (wc := (wd_X7_mostAlike cI cB cZ a_this a_answers answers)) (w1 := (wd_X7_mostAlike cI cB cZ a_this a_answers answers)) (ws' := (wd_X7_bestQuestion cI cB cZ a_this a_answers a_p1 a_p1_wets a_p1_guests a_p1_sights a_p1_remarks a_p1_marks a_p1_marks_cells a_p1_past answers p1_marks_cells p1_marks_rows p1_host p1_rooms p1_night p1_wheels p1_turned)) hx hb hml hown hts hK hA hl hS (c_X7_mostAlike l D cI cB cZ a_this a_answers answers l2 _ _ hq2) (cwV 1 hts gX7_bestQuestion_X7_mostAlike rfl rfl rfl (by decide +kernel) ⟨Nat.le_of_ble_eq_true rfl, Nat.le_of_ble_eq_true rfl⟩) 0 rfl rfl [0, 1] rfl rfl rfl rfl rfl rfl (Nat.le_of_ble_eq_true rfl) dX7_bestQuestion_71 (fun H locs hS => ?_)
      refine lv_istore (lv' := [(7, .int q2), (0, .ref a_this), (2, .int l2), (3, .int l3), (4, .int l4), (5, .int l5), (6, .int l6)]) hx hb dX7_bestQuestion_74 hl (by decide) rfl (fun ls hl => ?_)
      refine lv_iload hx hb dX7_bestQuestion_76 (lv_at hl 0 rfl) ?_
      refine lv_iload hx hb dX7_bestQuestion_78 (lv_at hl 4 rfl) ?_
      refine lv_icmp_ge (tgt := 96) hx hb dX7_bestQuestion_80 (by decide) (fun c3 => ?_) (fun c3 => ?_)
      · replace h := s_yes c3 h
        exact w_X7_bestQuestion_b96 C0 hend k_b21 hk_b21 k_b30 hk_b30 answers l2 l3 l4 l5 l6 _ _ _ h hS (lv_sub hl [1, 2, 3, 4, 5, 6] rfl)
      replace h := s_no c3 h
      refine lv_iload hx hb dX7_bestQuestion_83 (lv_at hl 0 rfl) ?_
      refine lv_istore (lv' := [(4, .int q2), (7, .int q2), (0, .ref a_this), (2, .int l2), (3, .int l3), (5, .int l5), (6, .int l6)]) hx hb dX7_bestQuestion_85 hl (by decide) rfl (fun ls hl => ?_)
      refine lv_bipush (v := (10 : Int32)) hx hb dX7_bestQuestion_87 (by decide) ?_
      refine lv_iload hx hb dX7_bestQuestion_89 (lv_at hl 5 rfl) ?_
      refine lv_imul hx hb dX7_bestQuestion_91 ?_
      refine lv_iload hx hb dX7_bestQuestion_92 (lv_at hl 6 rfl) ?_
      refine lv_iadd hx hb dX7_bestQuestion_94 ?_
      refine lv_istore_n (lv' := [(3, .int (((10 : Int32) * l5) + l6)), (4, .int q2), (7, .int q2), (0, .ref a_this), (2, .int l2), (5, .int l5), (6, .int l6)]) hx hb dX7_bestQuestion_95 rfl hl (by decide) rfl (fun ls hl => ?_)
      exact w_X7_bestQuestion_b96 C0 hend k_b21 hk_b21 k_b30 hk_b30 answers l2 (((10 : Int32) * l5) + l6) q2 l5 l6 _ _ _ h hS (lv_sub hl [3, 4, 0, 1, 5, 6] rfl)
    replace h := s_no c1 h
    refine lv_aload_n hx hb dX7_bestQuestion_47 rfl (lv_at hl 0 rfl) ?_
    refine s_get (C := RX7) (T := TX7) (N := 1) hx hb hts inX7 hown hK hS 0 rfl rfl 0 (by decide) (hts (.fieldLink RX7 9 "InnTurned$Wits" "answers" "[I") (List.mem_of_getElem? (i := 1) rfl)) rfl rfl dX7_bestQuestion_48 ?_
    refine lv_iload hx hb dX7_bestQuestion_51 (lv_at hl 6 rfl) ?_
    refine lv_iload hx hb dX7_bestQuestion_53 (lv_at hl 6 rfl) ?_
    refine lv_iload hx hb dX7_bestQuestion_55 (lv_at hl 4 rfl) ?_
    refine lv_iload hx hb dX7_bestQuestion_57 (lv_at hl 5 rfl) ?_
    obtain ⟨q4, hq4, h⟩ := s_bind h
    refine s_calliS (r := q4) (As := [.int l7, .int l5, .int l6]) (rest := [.int l7, .ref a_answers]) (wc := ([] : va_W)) (w1 := ([] : va_W)) (ws' := (wd_X7_bestQuestion cI cB cZ a_this a_answers a_p1 a_p1_wets a_p1_guests a_p1_sights a_p1_remarks a_p1_marks a_p1_marks_cells a_p1_past answers p1_marks_cells p1_marks_rows p1_host p1_rooms p1_night p1_wheels p1_turned)) hx hb hml hown hts hK hA hl hS (c_X2_letsPass l D cI cB cZ l7 l5 l6 _ _ hq4) (va_cwS 3 hts gX7_bestQuestion_X2_letsPass rfl rfl rfl (by decide +kernel) ⟨Nat.le_of_ble_eq_true rfl, Nat.le_of_ble_eq_true rfl⟩) [] rfl rfl rfl rfl rfl rfl (Nat.le_of_ble_eq_true rfl) dX7_bestQuestion_59 (fun H locs hS => ?_)
    obtain ⟨g5, h⟩ := s_guard h
    refine s_iast (ws' := (wd_X7_bestQuestion cI cB cZ a_this a_answers a_p1 a_p1_wets a_p1_guests a_p1_sights a_p1_remarks a_p1_marks a_p1_marks_cells a_p1_past (upd answers (Int32.toNatClampNeg l7) q4) p1_marks_cells p1_marks_rows p1_host p1_rooms p1_night p1_wheels p1_turned)) hx hb hK hS 1 rfl rfl g5 rfl dX7_bestQuestion_62 (fun H locs hS => ?_)
    refine lv_iinc (v := (l7 + (1 : Int32))) (lv' := [(7, .int (l7 + (1 : Int32))), (0, .ref a_this), (2, .int l2), (3, .int l3), (4, .int l4), (5, .int l5), (6, .int l6)]) hx hb dX7_bestQuestion_63 hl (k := 6) rfl rfl (by decide) rfl (fun ls hl => ?_)
    refine lv_goto (tgt := 40) hx hb dX7_bestQuestion_66 (by decide) ?_
    exact ih (upd answers (Int32.toNatClampNeg l7) q4) l2 l3 l4 l5 l6 (l7 + (1 : Int32)) _ _ _ h hS (lv_sub hl [1, 2, 3, 4, 5, 6, 0] rfl)
def f_X7_bestQuestion_b30 (k_b21 : (Nat → Int32) → Int32 → Int32 → Int32 → Int32 → Option (Int32 × (Nat → Int32)))  (p1_marks_cells : (Nat → Int32)) (p1_marks_rows : Int32) : Nat → (Nat → Int32) → Int32 → Int32 → Int32 → Int32 → Int32 → Option (Int32 × (Nat → Int32))
  | 0, _, _, _, _, _, _ => none
  | fu + 1, answers, l2, l3, l4, l5, l6 => (if (9 : Int32) < l6 then k_b21 answers l2 l3 l4 (l5 + (1 : Int32)) else f_X7_bestQuestion_b40 k_b21 (f_X7_bestQuestion_b30 k_b21 p1_marks_cells p1_marks_rows fu) p1_marks_cells p1_marks_rows s_fuel answers l2 l3 l4 l5 l6 (0 : Int32))
set_option maxHeartbeats 4000000 in
set_option maxRecDepth 100000 in
theorem w_X7_bestQuestion_b30 {p : Program} {l : Launch} {e : Env} {s : State} {m : MethodId} {args : Array Value} {below : List Frame} {meth : Method} {c : Code} {A : Nat → Prop} {Q : State → Prop} {D : va_G} {cI cB cZ : ClassId} {a_this a_answers a_p1 a_p1_wets a_p1_guests a_p1_sights a_p1_remarks a_p1_marks a_p1_marks_cells a_p1_past : Nat} {p1_marks_cells : (Nat → Int32)} {p1_marks_rows : Int32} {p1_host : Int32} {p1_rooms : Int32} {p1_night : Int32} {p1_wheels : Int32} {p1_turned : Int32} (C0 : Cx p s m args c cX7_bestQuestion 8 RX7 wsX7_bestQuestion D (s_tys cI cB cZ) A) {rv : Int32 × (Nat → Int32)} (hend : ∀ (pc : Nat) (H : Heap) (locs : List Loc) (ls : Array Slot), decode cX7_bestQuestion pc = .ok (.ireturn, 1) → sS D vwCl A s.heap (wd_X7_bestQuestion cI cB cZ a_this a_answers a_p1 a_p1_wets a_p1_guests a_p1_sights a_p1_remarks a_p1_marks a_p1_marks_cells a_p1_past rv.2 p1_marks_cells p1_marks_rows p1_host p1_rooms p1_night p1_wheels p1_turned) H locs → W p l e rm_X7_bestQuestion s m args below meth c H locs 0 0 Q (F0 m pc ls [.int rv.1])) (k_b21 : (Nat → Int32) → Int32 → Int32 → Int32 → Int32 → Option (Int32 × (Nat → Int32))) (hk_b21 : ∀ (answers : (Nat → Int32)) (l2 : Int32) (l3 : Int32) (l4 : Int32) (l5 : Int32) (H : Heap) (locs : List Loc) (ls : Array Slot), k_b21 answers l2 l3 l4 l5 = some rv → sS D vwCl A s.heap (wd_X7_bestQuestion cI cB cZ a_this a_answers a_p1 a_p1_wets a_p1_guests a_p1_sights a_p1_remarks a_p1_marks a_p1_marks_cells a_p1_past answers p1_marks_cells p1_marks_rows p1_host p1_rooms p1_night p1_wheels p1_turned) H locs → lv_has ls 8 [(0, .ref a_this), (2, .int l2), (3, .int l3), (4, .int l4), (5, .int l5)] → W p l e rm_X7_bestQuestion s m args below meth c H locs 0 0 Q (F0 m 21 ls [])) : ∀ (fu : Nat) (answers : (Nat → Int32)) (l2 : Int32) (l3 : Int32) (l4 : Int32) (l5 : Int32) (l6 : Int32) (H : Heap) (locs : List Loc) (ls : Array Slot), f_X7_bestQuestion_b30 k_b21 p1_marks_cells p1_marks_rows fu answers l2 l3 l4 l5 l6 = some rv → sS D vwCl A s.heap (wd_X7_bestQuestion cI cB cZ a_this a_answers a_p1 a_p1_wets a_p1_guests a_p1_sights a_p1_remarks a_p1_marks a_p1_marks_cells a_p1_past answers p1_marks_cells p1_marks_rows p1_host p1_rooms p1_night p1_wheels p1_turned) H locs → lv_has ls 8 [(0, .ref a_this), (2, .int l2), (3, .int l3), (4, .int l4), (5, .int l5), (6, .int l6)] → W p l e rm_X7_bestQuestion s m args below meth c H locs 0 0 Q (F0 m 30 ls []) := by
  obtain ⟨hx, hb, hml, hown, hts, hK, hA⟩ := id C0
  have inX1 : ∀ w ∈ u_ws RX1 TX1 11, w ∈ wsX7_bestQuestion := inX1_X7_bestQuestion
  have inX5 : ∀ w ∈ u_ws RX5 TX5 4, w ∈ wsX7_bestQuestion := inX5_X7_bestQuestion
  have inX7 : ∀ w ∈ u_ws RX7 TX7 1, w ∈ wsX7_bestQuestion := inX7_X7_bestQuestion
  intro fu
  induction fu with
  | zero => intro answers l2 l3 l4 l5 l6 H locs ls h; cases h
  | succ fu ih =>
    intro answers l2 l3 l4 l5 l6 H locs ls h hS hl
    rw [f_X7_bestQuestion_b30] at h
    refine lv_iload hx hb dX7_bestQuestion_30 (lv_at hl 5 rfl) ?_
    refine lv_bipush (v := (9 : Int32)) hx hb dX7_bestQuestion_32 (by decide) ?_
    refine lv_icmp_gt (tgt := 102) hx hb dX7_bestQuestion_34 (by decide) (fun c6 => ?_) (fun c6 => ?_)
    · replace h := s_yes c6 h
      refine lv_iinc (v := (l5 + (1 : Int32))) (lv' := [(5, .int (l5 + (1 : Int32))), (0, .ref a_this), (2, .int l2), (3, .int l3), (4, .int l4), (6, .int l6)]) hx hb dX7_bestQuestion_102 hl (k := 4) rfl rfl (by decide) rfl (fun ls hl => ?_)
      refine lv_goto (tgt := 21) hx hb dX7_bestQuestion_105 (by decide) ?_
      exact hk_b21 answers l2 l3 l4 (l5 + (1 : Int32)) _ _ _ h hS (lv_sub hl [1, 2, 3, 4, 0] rfl)
    replace h := s_no c6 h
    refine lv_iconst (v := (0 : Int32)) hx hb dX7_bestQuestion_37 (by decide) ?_
    refine lv_istore (lv' := [(7, .int (0 : Int32)), (0, .ref a_this), (2, .int l2), (3, .int l3), (4, .int l4), (5, .int l5), (6, .int l6)]) hx hb dX7_bestQuestion_38 hl (by decide) rfl (fun ls hl => ?_)
    exact w_X7_bestQuestion_b40 C0 hend k_b21 hk_b21 (f_X7_bestQuestion_b30 k_b21 p1_marks_cells p1_marks_rows fu) ih s_fuel answers l2 l3 l4 l5 l6 (0 : Int32) _ _ _ h hS (lv_sub hl [1, 2, 3, 4, 5, 6, 0] rfl)
def f_X7_bestQuestion_b21  (p1_marks_cells : (Nat → Int32)) (p1_marks_rows : Int32) : Nat → (Nat → Int32) → Int32 → Int32 → Int32 → Int32 → Option (Int32 × (Nat → Int32))
  | 0, _, _, _, _, _ => none
  | fu + 1, answers, l2, l3, l4, l5 => (if (4 : Int32) < l5 then some (l3, answers) else f_X7_bestQuestion_b30 (f_X7_bestQuestion_b21 p1_marks_cells p1_marks_rows fu) p1_marks_cells p1_marks_rows s_fuel answers l2 l3 l4 l5 (0 : Int32))
set_option maxHeartbeats 4000000 in
set_option maxRecDepth 100000 in
theorem w_X7_bestQuestion_b21 {p : Program} {l : Launch} {e : Env} {s : State} {m : MethodId} {args : Array Value} {below : List Frame} {meth : Method} {c : Code} {A : Nat → Prop} {Q : State → Prop} {D : va_G} {cI cB cZ : ClassId} {a_this a_answers a_p1 a_p1_wets a_p1_guests a_p1_sights a_p1_remarks a_p1_marks a_p1_marks_cells a_p1_past : Nat} {p1_marks_cells : (Nat → Int32)} {p1_marks_rows : Int32} {p1_host : Int32} {p1_rooms : Int32} {p1_night : Int32} {p1_wheels : Int32} {p1_turned : Int32} (C0 : Cx p s m args c cX7_bestQuestion 8 RX7 wsX7_bestQuestion D (s_tys cI cB cZ) A) {rv : Int32 × (Nat → Int32)} (hend : ∀ (pc : Nat) (H : Heap) (locs : List Loc) (ls : Array Slot), decode cX7_bestQuestion pc = .ok (.ireturn, 1) → sS D vwCl A s.heap (wd_X7_bestQuestion cI cB cZ a_this a_answers a_p1 a_p1_wets a_p1_guests a_p1_sights a_p1_remarks a_p1_marks a_p1_marks_cells a_p1_past rv.2 p1_marks_cells p1_marks_rows p1_host p1_rooms p1_night p1_wheels p1_turned) H locs → W p l e rm_X7_bestQuestion s m args below meth c H locs 0 0 Q (F0 m pc ls [.int rv.1])) : ∀ (fu : Nat) (answers : (Nat → Int32)) (l2 : Int32) (l3 : Int32) (l4 : Int32) (l5 : Int32) (H : Heap) (locs : List Loc) (ls : Array Slot), f_X7_bestQuestion_b21 p1_marks_cells p1_marks_rows fu answers l2 l3 l4 l5 = some rv → sS D vwCl A s.heap (wd_X7_bestQuestion cI cB cZ a_this a_answers a_p1 a_p1_wets a_p1_guests a_p1_sights a_p1_remarks a_p1_marks a_p1_marks_cells a_p1_past answers p1_marks_cells p1_marks_rows p1_host p1_rooms p1_night p1_wheels p1_turned) H locs → lv_has ls 8 [(0, .ref a_this), (2, .int l2), (3, .int l3), (4, .int l4), (5, .int l5)] → W p l e rm_X7_bestQuestion s m args below meth c H locs 0 0 Q (F0 m 21 ls []) := by
  obtain ⟨hx, hb, hml, hown, hts, hK, hA⟩ := id C0
  have inX1 : ∀ w ∈ u_ws RX1 TX1 11, w ∈ wsX7_bestQuestion := inX1_X7_bestQuestion
  have inX5 : ∀ w ∈ u_ws RX5 TX5 4, w ∈ wsX7_bestQuestion := inX5_X7_bestQuestion
  have inX7 : ∀ w ∈ u_ws RX7 TX7 1, w ∈ wsX7_bestQuestion := inX7_X7_bestQuestion
  intro fu
  induction fu with
  | zero => intro answers l2 l3 l4 l5 H locs ls h; cases h
  | succ fu ih =>
    intro answers l2 l3 l4 l5 H locs ls h hS hl
    rw [f_X7_bestQuestion_b21] at h
    refine lv_iload hx hb dX7_bestQuestion_21 (lv_at hl 4 rfl) ?_
    refine lv_iconst (v := (4 : Int32)) hx hb dX7_bestQuestion_23 (by decide) ?_
    refine lv_icmp_gt (tgt := 108) hx hb dX7_bestQuestion_24 (by decide) (fun c7 => ?_) (fun c7 => ?_)
    · replace h := s_yes c7 h
      refine lv_iload_n hx hb dX7_bestQuestion_108 rfl (lv_at hl 2 rfl) ?_
      obtain rfl := Option.some.inj h
      exact hend _ _ _ _ dX7_bestQuestion_109 hS
    replace h := s_no c7 h
    refine lv_iconst (v := (0 : Int32)) hx hb dX7_bestQuestion_27 (by decide) ?_
    refine lv_istore (lv' := [(6, .int (0 : Int32)), (0, .ref a_this), (2, .int l2), (3, .int l3), (4, .int l4), (5, .int l5)]) hx hb dX7_bestQuestion_28 hl (by decide) rfl (fun ls hl => ?_)
    exact w_X7_bestQuestion_b30 C0 hend (f_X7_bestQuestion_b21 p1_marks_cells p1_marks_rows fu) ih s_fuel answers l2 l3 l4 l5 (0 : Int32) _ _ _ h hS (lv_sub hl [1, 2, 3, 4, 5, 0] rfl)
def f_X7_bestQuestion  (p1_marks_cells : (Nat → Int32)) (p1_marks_rows : Int32) (answers : (Nat → Int32)) : Option (Int32 × (Nat → Int32)) := ((f_X7_hostKinds p1_marks_cells p1_marks_rows).bind fun q8 => (if q8 = 0 then some ((-1 : Int32), answers) else f_X7_bestQuestion_b21  p1_marks_cells p1_marks_rows s_fuel answers q8 (-1 : Int32) (7 : Int32) (0 : Int32)))
set_option maxHeartbeats 4000000 in
set_option maxRecDepth 100000 in
theorem c_X7_bestQuestion (l : Launch) (D : va_G) (cI cB cZ : ClassId) (a_this : Nat) (a_answers : Nat) (a_p1 : Nat) (a_p1_wets : Nat) (a_p1_guests : Nat) (a_p1_sights : Nat) (a_p1_remarks : Nat) (a_p1_marks : Nat) (a_p1_marks_cells : Nat) (a_p1_past : Nat) (answers : (Nat → Int32)) (p1_marks_cells : (Nat → Int32)) (p1_marks_rows : Int32) (p1_host : Int32) (p1_rooms : Int32) (p1_night : Int32) (p1_wheels : Int32) (p1_turned : Int32) (rv : Int32 × (Nat → Int32)) (sz : Nat) (hf : f_X7_bestQuestion p1_marks_cells p1_marks_rows answers = some rv) : Met l yX7_bestQuestion wsX7_bestQuestion rm_X7_bestQuestion (sPc D vwCl (s_tys cI cB cZ) [.ref a_this, .ref a_p1] (wd_X7_bestQuestion cI cB cZ a_this a_answers a_p1 a_p1_wets a_p1_guests a_p1_sights a_p1_remarks a_p1_marks a_p1_marks_cells a_p1_past answers p1_marks_cells p1_marks_rows p1_host p1_rooms p1_night p1_wheels p1_turned) sz) (sQi D vwCl (wd_X7_bestQuestion cI cB cZ a_this a_answers a_p1 a_p1_wets a_p1_guests a_p1_sights a_p1_remarks a_p1_marks a_p1_marks_cells a_p1_past answers p1_marks_cells p1_marks_rows p1_host p1_rooms p1_night p1_wheels p1_turned) (wd_X7_bestQuestion cI cB cZ a_this a_answers a_p1 a_p1_wets a_p1_guests a_p1_sights a_p1_remarks a_p1_marks a_p1_marks_cells a_p1_past rv.2 p1_marks_cells p1_marks_rows p1_host p1_rooms p1_night p1_wheels p1_turned) sz rv.1) 0 0 (va_A (wd_X7_bestQuestion cI cB cZ a_this a_answers a_p1 a_p1_wets a_p1_guests a_p1_sights a_p1_remarks a_p1_marks a_p1_marks_cells a_p1_past answers p1_marks_cells p1_marks_rows p1_host p1_rooms p1_night p1_wheels p1_turned) sz) := by
  refine s_enter_n (cc := cX7_bestQuestion) (nL := 8) (r := rv.1) (by decide) rfl (Nat.le_of_ble_eq_true rfl) ?_
  intro p e s m args below meth c A Q C0 hend ls hl hS
  have h := hf
  clear hf
  replace hl : lv_has ls 8 [(0, .ref a_this), (1, .ref a_p1)] := hl
  unfold f_X7_bestQuestion at h
  obtain ⟨hx, hb, hml, hown, hts, hK, hA⟩ := id C0
  have inX1 : ∀ w ∈ u_ws RX1 TX1 11, w ∈ wsX7_bestQuestion := inX1_X7_bestQuestion
  have inX5 : ∀ w ∈ u_ws RX5 TX5 4, w ∈ wsX7_bestQuestion := inX5_X7_bestQuestion
  have inX7 : ∀ w ∈ u_ws RX7 TX7 1, w ∈ wsX7_bestQuestion := inX7_X7_bestQuestion
  refine lv_aload_n hx hb dX7_bestQuestion_0 rfl (lv_at hl 0 rfl) ?_
  refine lv_aload_n hx hb dX7_bestQuestion_1 rfl (lv_at hl 1 rfl) ?_
  obtain ⟨q8, hq8, h⟩ := s_bind h
  refine s_calliV (r := q8) (As := [.ref a_p1]) (rest := []) (wc := (wd_X7_hostKinds cI cB cZ a_this a_answers a_p1 a_p1_wets a_p1_guests a_p1_sights a_p1_remarks a_p1_marks a_p1_marks_cells a_p1_past p1_marks_cells p1_marks_rows p1_host p1_rooms p1_night p1_wheels p1_turned)) (w1 := (wd_X7_hostKinds cI cB cZ a_this a_answers a_p1 a_p1_wets a_p1_guests a_p1_sights a_p1_remarks a_p1_marks a_p1_marks_cells a_p1_past p1_marks_cells p1_marks_rows p1_host p1_rooms p1_night p1_wheels p1_turned)) (ws' := (wd_X7_bestQuestion cI cB cZ a_this a_answers a_p1 a_p1_wets a_p1_guests a_p1_sights a_p1_remarks a_p1_marks a_p1_marks_cells a_p1_past answers p1_marks_cells p1_marks_rows p1_host p1_rooms p1_night p1_wheels p1_turned)) hx hb hml hown hts hK hA hl hS (c_X7_hostKinds l D cI cB cZ a_this a_answers a_p1 a_p1_wets a_p1_guests a_p1_sights a_p1_remarks a_p1_marks a_p1_marks_cells a_p1_past p1_marks_cells p1_marks_rows p1_host p1_rooms p1_night p1_wheels p1_turned _ _ hq8) (cwV 1 hts gX7_bestQuestion_X7_hostKinds rfl rfl rfl (by decide +kernel) ⟨Nat.le_of_ble_eq_true rfl, Nat.le_of_ble_eq_true rfl⟩) 0 rfl rfl [0, 2, 3, 4] rfl rfl rfl rfl rfl rfl (Nat.le_of_ble_eq_true rfl) dX7_bestQuestion_2 (fun H locs hS => ?_)
  refine lv_istore_n (lv' := [(2, .int q8), (0, .ref a_this), (1, .ref a_p1)]) hx hb dX7_bestQuestion_5 rfl hl (by decide) rfl (fun ls hl => ?_)
  refine lv_iconst (v := (-1 : Int32)) hx hb dX7_bestQuestion_6 (by decide) ?_
  refine lv_istore_n (lv' := [(3, .int (-1 : Int32)), (2, .int q8), (0, .ref a_this), (1, .ref a_p1)]) hx hb dX7_bestQuestion_7 rfl hl (by decide) rfl (fun ls hl => ?_)
  refine lv_bipush (v := (7 : Int32)) hx hb dX7_bestQuestion_8 (by decide) ?_
  refine lv_istore (lv' := [(4, .int (7 : Int32)), (3, .int (-1 : Int32)), (2, .int q8), (0, .ref a_this), (1, .ref a_p1)]) hx hb dX7_bestQuestion_10 hl (by decide) rfl (fun ls hl => ?_)
  refine lv_iload_n hx hb dX7_bestQuestion_12 rfl (lv_at hl 2 rfl) ?_
  refine lv_if_ne (tgt := 18) hx hb dX7_bestQuestion_13 (by decide) (fun c9 => ?_) (fun c9 => ?_)
  · replace h := s_no c9 h
    refine lv_iconst (v := (0 : Int32)) hx hb dX7_bestQuestion_18 (by decide) ?_
    refine lv_istore (lv' := [(5, .int (0 : Int32)), (4, .int (7 : Int32)), (3, .int (-1 : Int32)), (2, .int q8), (0, .ref a_this), (1, .ref a_p1)]) hx hb dX7_bestQuestion_19 hl (by decide) rfl (fun ls hl => ?_)
    exact w_X7_bestQuestion_b21 C0 hend  s_fuel answers q8 (-1 : Int32) (7 : Int32) (0 : Int32) _ _ _ h hS (lv_sub hl [4, 3, 2, 1, 0] rfl)
  replace h := s_yes c9 h
  refine lv_iconst (v := (-1 : Int32)) hx hb dX7_bestQuestion_16 (by decide) ?_
  obtain rfl := Option.some.inj h
  exact hend _ _ _ _ dX7_bestQuestion_17 hS

-- InnTurned.isKind(I)Z
abbrev rm_X8_isKind : Room := { frames := 1, cells := 0, slots := 0, locals := 22 }
def f_X8_isKind    (p1 : Int32) : Option (Int32) := ((f_X8_within p1 (0 : Int32) (5 : Int32)).bind fun q1 => (if q1 = 0 ∨ q1 = 1 then some (q1) else none))
set_option maxHeartbeats 4000000 in
set_option maxRecDepth 100000 in
theorem c_X8_isKind (l : Launch) (D : va_G) (cI cB cZ : ClassId) (p1 : Int32) (rv : Int32) (sz : Nat) (hf : f_X8_isKind p1 = some rv) : Met l yX8_isKind wsX8_isKind rm_X8_isKind (sPc D vwCl (s_tys cI cB cZ) [.int p1] ([] : va_W) sz) (sQi D vwCl ([] : va_W) ([] : va_W) sz rv) 0 0 (va_A ([] : va_W) sz) := by
  refine s_enter_z (cc := cX8_isKind) (nL := 1) (r := rv) (by decide) rfl (Nat.le_of_ble_eq_true rfl) ?_
  intro p e s m args below meth c A Q C0 hend ls hl hS
  have h := hf
  clear hf
  replace hl : lv_has ls 1 [(0, .int p1)] := hl
  unfold f_X8_isKind at h
  obtain ⟨hx, hb, hml, hown, hts, hK, hA⟩ := id C0
  refine lv_iload_n hx hb dX8_isKind_0 rfl (lv_at hl 0 rfl) ?_
  refine lv_iconst (v := (0 : Int32)) hx hb dX8_isKind_1 (by decide) ?_
  refine lv_iconst (v := (5 : Int32)) hx hb dX8_isKind_2 (by decide) ?_
  obtain ⟨q1, hq1, h⟩ := s_bind h
  refine s_calliS (r := q1) (As := [.int p1, .int (0 : Int32), .int (5 : Int32)]) (rest := []) (wc := ([] : va_W)) (w1 := ([] : va_W)) (ws' := ([] : va_W)) hx hb hml hown hts hK hA hl hS (c_X8_within l D cI cB cZ p1 (0 : Int32) (5 : Int32) _ _ hq1) (va_cwS 3 hts gX8_isKind_X8_within rfl rfl rfl (by decide +kernel) ⟨Nat.le_of_ble_eq_true rfl, Nat.le_of_ble_eq_true rfl⟩) [] rfl rfl rfl rfl rfl rfl (Nat.le_of_ble_eq_true rfl) dX8_isKind_3 (fun H locs hS => ?_)
  obtain ⟨g2, h⟩ := s_guard h
  obtain rfl := Option.some.inj h
  exact hend _ _ _ _ dX8_isKind_6 g2 hS

-- InnTurned.bad()I
def wd_X8_bad (cI cB cZ : ClassId) (a_this : Nat) (a_house : Nat) (a_spare : Nat) (a_image0 : Nat) (a_image1 : Nat) (a_script : Nat) (a_telling : Nat) (a_lineup : Nat) (a_wits : Nat)  (kept0 : Int32) (kept1 : Int32) (above : Int32) (below : Int32) (bads : Int32) (nos : Int32) (fulls : Int32) : va_W := [(a_this, .inr (6, [.ref a_house, .ref a_spare, .ref a_image0, .ref a_image1, .ref a_script, .ref a_telling, .ref a_lineup, .ref a_wits, .int kept0, .int kept1, .int above, .int below, .int bads, .int nos, .int fulls]))]
abbrev rm_X8_bad : Room := { frames := 0, cells := 0, slots := 0, locals := 0 }
set_option maxRecDepth 20000 in
theorem inX8_X8_bad : ∀ w ∈ u_ws RX8 TX8 15, w ∈ wsX8_bad := by decide +kernel
def f_X8_bad   (bads : Int32) : Option (Int32 × Int32) := some ((-2 : Int32), (bads + (1 : Int32)))
set_option maxHeartbeats 4000000 in
set_option maxRecDepth 100000 in
theorem c_X8_bad (l : Launch) (D : va_G) (cI cB cZ : ClassId) (a_this : Nat) (a_house : Nat) (a_spare : Nat) (a_image0 : Nat) (a_image1 : Nat) (a_script : Nat) (a_telling : Nat) (a_lineup : Nat) (a_wits : Nat) (kept0 : Int32) (kept1 : Int32) (above : Int32) (below : Int32) (bads : Int32) (nos : Int32) (fulls : Int32) (rv : Int32 × Int32) (sz : Nat) (hf : f_X8_bad bads = some rv) : Met l yX8_bad wsX8_bad rm_X8_bad (sPc D vwCl (s_tys cI cB cZ) [.ref a_this] (wd_X8_bad cI cB cZ a_this a_house a_spare a_image0 a_image1 a_script a_telling a_lineup a_wits kept0 kept1 above below bads nos fulls) sz) (sQi D vwCl (wd_X8_bad cI cB cZ a_this a_house a_spare a_image0 a_image1 a_script a_telling a_lineup a_wits kept0 kept1 above below bads nos fulls) (wd_X8_bad cI cB cZ a_this a_house a_spare a_image0 a_image1 a_script a_telling a_lineup a_wits kept0 kept1 above below rv.2 nos fulls) sz rv.1) 0 0 (va_A (wd_X8_bad cI cB cZ a_this a_house a_spare a_image0 a_image1 a_script a_telling a_lineup a_wits kept0 kept1 above below bads nos fulls) sz) := by
  refine s_enter_n (cc := cX8_bad) (nL := 1) (r := rv.1) (by decide) rfl (Nat.le_of_ble_eq_true rfl) ?_
  intro p e s m args below meth c A Q C0 hend ls hl hS
  have h := hf
  clear hf
  replace hl : lv_has ls 1 [(0, .ref a_this)] := hl
  unfold f_X8_bad at h
  obtain ⟨hx, hb, hml, hown, hts, hK, hA⟩ := id C0
  have inX8 : ∀ w ∈ u_ws RX8 TX8 15, w ∈ wsX8_bad := inX8_X8_bad
  refine lv_aload_n hx hb dX8_bad_0 rfl (lv_at hl 0 rfl) ?_
  refine lv_dup hx hb dX8_bad_1 rfl ?_
  refine s_get (C := RX8) (T := TX8) (N := 15) hx hb hts inX8 hown hK hS 0 rfl rfl 12 (by decide) (hts (.fieldLink RX8 284 "InnTurned" "bads" "I") (List.mem_of_getElem? (i := 1) rfl)) rfl rfl dX8_bad_2 ?_
  refine lv_iconst (v := (1 : Int32)) hx hb dX8_bad_5 (by decide) ?_
  refine lv_iadd hx hb dX8_bad_6 ?_
  refine s_put (ws' := (wd_X8_bad cI cB cZ a_this a_house a_spare a_image0 a_image1 a_script a_telling a_lineup a_wits kept0 kept1 above below (bads + (1 : Int32)) nos fulls)) (C := RX8) (T := TX8) (N := 15) hx hb hts inX8 tyX8 tyX8_ok nmX8 hown hK hS 0 rfl rfl 12 (by decide) (hts (.fieldLink RX8 284 "InnTurned" "bads" "I") (List.mem_of_getElem? (i := 1) rfl)) rfl rfl rfl rfl (Nat.le_of_ble_eq_true rfl) rfl dX8_bad_7 (fun H locs hS => ?_)
  refine lv_bipush (v := (-2 : Int32)) hx hb dX8_bad_10 (by decide) ?_
  obtain rfl := Option.some.inj h
  exact hend _ _ _ _ dX8_bad_12 hS

-- InnTurned.inn(II)I
def wd_X8_inn (cI cB cZ : ClassId) (a_this : Nat) (a_house : Nat) (a_house_wets : Nat) (a_house_guests : Nat) (a_house_guests_cells : Nat) (a_house_sights : Nat) (a_house_sights_cells : Nat) (a_house_remarks : Nat) (a_house_remarks_cells : Nat) (a_house_marks : Nat) (a_house_marks_cells : Nat) (a_house_past : Nat) (a_house_past_cells : Nat) (a_spare : Nat) (a_image0 : Nat) (a_image1 : Nat) (a_script : Nat) (a_telling : Nat) (a_lineup : Nat) (a_wits : Nat)  (house_wets : (Nat → Int32)) (house_guests_rows : Int32) (house_sights_rows : Int32) (house_remarks_rows : Int32) (house_marks_rows : Int32) (house_past_rows : Int32) (house_host : Int32) (house_rooms : Int32) (house_night : Int32) (house_wheels : Int32) (house_turned : Int32) (kept0 : Int32) (kept1 : Int32) (above : Int32) (below : Int32) (bads : Int32) (nos : Int32) (fulls : Int32) : va_W := [(a_this, .inr (6, [.ref a_house, .ref a_spare, .ref a_image0, .ref a_image1, .ref a_script, .ref a_telling, .ref a_lineup, .ref a_wits, .int kept0, .int kept1, .int above, .int below, .int bads, .int nos, .int fulls])), (a_house, .inr (0, [.ref a_house_wets, .ref a_house_guests, .ref a_house_sights, .ref a_house_remarks, .ref a_house_marks, .ref a_house_past, .int house_host, .int house_rooms, .int house_night, .int house_wheels, .int house_turned])), (a_house_wets, .inl (cI, 6, .inl house_wets)), (a_house_guests, .inr (3, [.int 4, .int 7, .ref a_house_guests_cells, .int house_guests_rows])), (a_house_sights, .inr (3, [.int 4, .int 5, .ref a_house_sights_cells, .int house_sights_rows])), (a_house_remarks, .inr (3, [.int 5, .int 6, .ref a_house_remarks_cells, .int house_remarks_rows])), (a_house_marks, .inr (3, [.int 3, .int 6, .ref a_house_marks_cells, .int house_marks_rows])), (a_house_past, .inr (3, [.int 24, .int 8, .ref a_house_past_cells, .int house_past_rows]))]
abbrev rm_X8_inn : Room := { frames := 2, cells := 0, slots := 0, locals := 45 }
set_option maxRecDepth 20000 in
theorem inX1_X8_inn : ∀ w ∈ u_ws RX1 TX1 11, w ∈ wsX8_inn := by decide +kernel
set_option maxRecDepth 20000 in
theorem inX5_X8_inn : ∀ w ∈ u_ws RX5 TX5 4, w ∈ wsX8_inn := by decide +kernel
set_option maxRecDepth 20000 in
theorem inX8_X8_inn : ∀ w ∈ u_ws RX8 TX8 15, w ∈ wsX8_inn := by decide +kernel
def f_X8_inn_b17   (house_wets : (Nat → Int32)) (house_guests_rows : Int32) (house_sights_rows : Int32) (house_remarks_rows : Int32) (house_marks_rows : Int32) (house_past_rows : Int32) (house_host : Int32) (house_rooms : Int32) (house_night : Int32) (house_wheels : Int32) (house_turned : Int32) (bads : Int32) : Option (Int32 × (Nat → Int32) × Int32 × Int32 × Int32 × Int32 × Int32 × Int32 × Int32 × Int32 × Int32 × Int32 × Int32) := ((f_X8_bad bads).bind fun q1 => some (q1.1, house_wets, house_guests_rows, house_sights_rows, house_remarks_rows, house_marks_rows, house_past_rows, house_host, house_rooms, house_night, house_wheels, house_turned, q1.2))
set_option maxHeartbeats 4000000 in
set_option maxRecDepth 100000 in
theorem w_X8_inn_b17 {p : Program} {l : Launch} {e : Env} {s : State} {m : MethodId} {args : Array Value} {below : List Frame} {meth : Method} {c : Code} {A : Nat → Prop} {Q : State → Prop} {D : va_G} {cI cB cZ : ClassId} {a_this a_house a_house_wets a_house_guests a_house_guests_cells a_house_sights a_house_sights_cells a_house_remarks a_house_remarks_cells a_house_marks a_house_marks_cells a_house_past a_house_past_cells a_spare a_image0 a_image1 a_script a_telling a_lineup a_wits : Nat} {kept0 : Int32} {kept1 : Int32} {above : Int32} {below : Int32} {nos : Int32} {fulls : Int32} (C0 : Cx p s m args c cX8_inn 4 RX8 wsX8_inn D (s_tys cI cB cZ) A) {rv : Int32 × (Nat → Int32) × Int32 × Int32 × Int32 × Int32 × Int32 × Int32 × Int32 × Int32 × Int32 × Int32 × Int32} (hend : ∀ (pc : Nat) (H : Heap) (locs : List Loc) (ls : Array Slot), decode cX8_inn pc = .ok (.ireturn, 1) → sS D vwCl A s.heap (wd_X8_inn cI cB cZ a_this a_house a_house_wets a_house_guests a_house_guests_cells a_house_sights a_house_sights_cells a_house_remarks a_house_remarks_cells a_house_marks a_house_marks_cells a_house_past a_house_past_cells a_spare a_image0 a_image1 a_script a_telling a_lineup a_wits rv.2.1 rv.2.2.1 rv.2.2.2.1 rv.2.2.2.2.1 rv.2.2.2.2.2.1 rv.2.2.2.2.2.2.1 rv.2.2.2.2.2.2.2.1 rv.2.2.2.2.2.2.2.2.1 rv.2.2.2.2.2.2.2.2.2.1 rv.2.2.2.2.2.2.2.2.2.2.1 rv.2.2.2.2.2.2.2.2.2.2.2.1 kept0 kept1 above below rv.2.2.2.2.2.2.2.2.2.2.2.2 nos fulls) H locs → W p l e rm_X8_inn s m args below meth c H locs 0 0 Q (F0 m pc ls [.int rv.1])) : ∀ (house_wets : (Nat → Int32)) (house_guests_rows : Int32) (house_sights_rows : Int32) (house_remarks_rows : Int32) (house_marks_rows : Int32) (house_past_rows : Int32) (house_host : Int32) (house_rooms : Int32) (house_night : Int32) (house_wheels : Int32) (house_turned : Int32) (bads : Int32) (H : Heap) (locs : List Loc) (ls : Array Slot), f_X8_inn_b17  house_wets house_guests_rows house_sights_rows house_remarks_rows house_marks_rows house_past_rows house_host house_rooms house_night house_wheels house_turned bads = some rv → sS D vwCl A s.heap (wd_X8_inn cI cB cZ a_this a_house a_house_wets a_house_guests a_house_guests_cells a_house_sights a_house_sights_cells a_house_remarks a_house_remarks_cells a_house_marks a_house_marks_cells a_house_past a_house_past_cells a_spare a_image0 a_image1 a_script a_telling a_lineup a_wits house_wets house_guests_rows house_sights_rows house_remarks_rows house_marks_rows house_past_rows house_host house_rooms house_night house_wheels house_turned kept0 kept1 above below bads nos fulls) H locs → lv_has ls 4 [(0, .ref a_this)] → W p l e rm_X8_inn s m args below meth c H locs 0 0 Q (F0 m 17 ls []) := by
  obtain ⟨hx, hb, hml, hown, hts, hK, hA⟩ := id C0
  have inX1 : ∀ w ∈ u_ws RX1 TX1 11, w ∈ wsX8_inn := inX1_X8_inn
  have inX5 : ∀ w ∈ u_ws RX5 TX5 4, w ∈ wsX8_inn := inX5_X8_inn
  have inX8 : ∀ w ∈ u_ws RX8 TX8 15, w ∈ wsX8_inn := inX8_X8_inn
  intro house_wets house_guests_rows house_sights_rows house_remarks_rows house_marks_rows house_past_rows house_host house_rooms house_night house_wheels house_turned bads H locs ls h hS hl
  unfold f_X8_inn_b17 at h
  refine lv_aload_n hx hb dX8_inn_17 rfl (lv_at hl 0 rfl) ?_
  obtain ⟨q1, hq1, h⟩ := s_bind h
  refine s_calliV (r := q1.1) (As := []) (rest := []) (wc := (wd_X8_bad cI cB cZ a_this a_house a_spare a_image0 a_image1 a_script a_telling a_lineup a_wits kept0 kept1 above below bads nos fulls)) (w1 := (wd_X8_bad cI cB cZ a_this a_house a_spare a_image0 a_image1 a_script a_telling a_lineup a_wits kept0 kept1 above below q1.2 nos fulls)) (ws' := (wd_X8_inn cI cB cZ a_this a_house a_house_wets a_house_guests a_house_guests_cells a_house_sights a_house_sights_cells a_house_remarks a_house_remarks_cells a_house_marks a_house_marks_cells a_house_past a_house_past_cells a_spare a_image0 a_image1 a_script a_telling a_lineup a_wits house_wets house_guests_rows house_sights_rows house_remarks_rows house_marks_rows house_past_rows house_host house_rooms house_night house_wheels house_turned kept0 kept1 above below q1.2 nos fulls)) hx hb hml hown hts hK hA hl hS (c_X8_bad l D cI cB cZ a_this a_house a_spare a_image0 a_image1 a_script a_telling a_lineup a_wits kept0 kept1 above below bads nos fulls _ _ hq1) (cwV 0 hts gX8_inn_X8_bad rfl rfl rfl (by decide +kernel) ⟨Nat.le_of_ble_eq_true rfl, Nat.le_of_ble_eq_true rfl⟩) 0 rfl rfl [0] rfl rfl rfl rfl rfl rfl (Nat.le_of_ble_eq_true rfl) dX8_inn_18 (fun H locs hS => ?_)
  obtain rfl := Option.some.inj h
  exact hend _ _ _ _ dX8_inn_21 hS
def f_X8_inn   (house_wets : (Nat → Int32)) (house_guests_rows : Int32) (house_sights_rows : Int32) (house_remarks_rows : Int32) (house_marks_rows : Int32) (house_past_rows : Int32) (house_host : Int32) (house_rooms : Int32) (house_night : Int32) (house_wheels : Int32) (house_turned : Int32) (bads : Int32) (p1 : Int32) (p2 : Int32) : Option (Int32 × (Nat → Int32) × Int32 × Int32 × Int32 × Int32 × Int32 × Int32 × Int32 × Int32 × Int32 × Int32 × Int32) := ((f_X8_isKind p1).bind fun q2 => (if q2 = 0 then f_X8_inn_b17   house_wets house_guests_rows house_sights_rows house_remarks_rows house_marks_rows house_past_rows house_host house_rooms house_night house_wheels house_turned bads else ((f_X8_within p2 (0 : Int32) (7 : Int32)).bind fun q4 => (if q4 = 0 then f_X8_inn_b17   house_wets house_guests_rows house_sights_rows house_remarks_rows house_marks_rows house_past_rows house_host house_rooms house_night house_wheels house_turned bads else ((f_X1_begin house_wets house_guests_rows house_sights_rows house_remarks_rows house_marks_rows house_past_rows house_host house_rooms house_night house_wheels house_turned p1 p2).bind fun q6 => some (house_guests_rows, q6.1, q6.2.1, q6.2.2.1, q6.2.2.2.1, q6.2.2.2.2.1, q6.2.2.2.2.2.1, q6.2.2.2.2.2.2.1, q6.2.2.2.2.2.2.2.1, q6.2.2.2.2.2.2.2.2.1, q6.2.2.2.2.2.2.2.2.2.1, q6.2.2.2.2.2.2.2.2.2.2, bads))))))
set_option maxHeartbeats 4000000 in
set_option maxRecDepth 100000 in
theorem c_X8_inn (l : Launch) (D : va_G) (cI cB cZ : ClassId) (a_this : Nat) (a_house : Nat) (a_house_wets : Nat) (a_house_guests : Nat) (a_house_guests_cells : Nat) (a_house_sights : Nat) (a_house_sights_cells : Nat) (a_house_remarks : Nat) (a_house_remarks_cells : Nat) (a_house_marks : Nat) (a_house_marks_cells : Nat) (a_house_past : Nat) (a_house_past_cells : Nat) (a_spare : Nat) (a_image0 : Nat) (a_image1 : Nat) (a_script : Nat) (a_telling : Nat) (a_lineup : Nat) (a_wits : Nat) (house_wets : (Nat → Int32)) (house_guests_rows : Int32) (house_sights_rows : Int32) (house_remarks_rows : Int32) (house_marks_rows : Int32) (house_past_rows : Int32) (house_host : Int32) (house_rooms : Int32) (house_night : Int32) (house_wheels : Int32) (house_turned : Int32) (kept0 : Int32) (kept1 : Int32) (above : Int32) (below : Int32) (bads : Int32) (nos : Int32) (fulls : Int32) (p1 : Int32) (p2 : Int32) (rv : Int32 × (Nat → Int32) × Int32 × Int32 × Int32 × Int32 × Int32 × Int32 × Int32 × Int32 × Int32 × Int32 × Int32) (sz : Nat) (hf : f_X8_inn house_wets house_guests_rows house_sights_rows house_remarks_rows house_marks_rows house_past_rows house_host house_rooms house_night house_wheels house_turned bads p1 p2 = some rv) : Met l yX8_inn wsX8_inn rm_X8_inn (sPc D vwCl (s_tys cI cB cZ) [.ref a_this, .int p1, .int p2] (wd_X8_inn cI cB cZ a_this a_house a_house_wets a_house_guests a_house_guests_cells a_house_sights a_house_sights_cells a_house_remarks a_house_remarks_cells a_house_marks a_house_marks_cells a_house_past a_house_past_cells a_spare a_image0 a_image1 a_script a_telling a_lineup a_wits house_wets house_guests_rows house_sights_rows house_remarks_rows house_marks_rows house_past_rows house_host house_rooms house_night house_wheels house_turned kept0 kept1 above below bads nos fulls) sz) (sQi D vwCl (wd_X8_inn cI cB cZ a_this a_house a_house_wets a_house_guests a_house_guests_cells a_house_sights a_house_sights_cells a_house_remarks a_house_remarks_cells a_house_marks a_house_marks_cells a_house_past a_house_past_cells a_spare a_image0 a_image1 a_script a_telling a_lineup a_wits house_wets house_guests_rows house_sights_rows house_remarks_rows house_marks_rows house_past_rows house_host house_rooms house_night house_wheels house_turned kept0 kept1 above below bads nos fulls) (wd_X8_inn cI cB cZ a_this a_house a_house_wets a_house_guests a_house_guests_cells a_house_sights a_house_sights_cells a_house_remarks a_house_remarks_cells a_house_marks a_house_marks_cells a_house_past a_house_past_cells a_spare a_image0 a_image1 a_script a_telling a_lineup a_wits rv.2.1 rv.2.2.1 rv.2.2.2.1 rv.2.2.2.2.1 rv.2.2.2.2.2.1 rv.2.2.2.2.2.2.1 rv.2.2.2.2.2.2.2.1 rv.2.2.2.2.2.2.2.2.1 rv.2.2.2.2.2.2.2.2.2.1 rv.2.2.2.2.2.2.2.2.2.2.1 rv.2.2.2.2.2.2.2.2.2.2.2.1 kept0 kept1 above below rv.2.2.2.2.2.2.2.2.2.2.2.2 nos fulls) sz rv.1) 0 0 (va_A (wd_X8_inn cI cB cZ a_this a_house a_house_wets a_house_guests a_house_guests_cells a_house_sights a_house_sights_cells a_house_remarks a_house_remarks_cells a_house_marks a_house_marks_cells a_house_past a_house_past_cells a_spare a_image0 a_image1 a_script a_telling a_lineup a_wits house_wets house_guests_rows house_sights_rows house_remarks_rows house_marks_rows house_past_rows house_host house_rooms house_night house_wheels house_turned kept0 kept1 above below bads nos fulls) sz) := by
  refine s_enter_n (cc := cX8_inn) (nL := 4) (r := rv.1) (by decide) rfl (Nat.le_of_ble_eq_true rfl) ?_
  intro p e s m args below meth c A Q C0 hend ls hl hS
  have h := hf
  clear hf
  replace hl : lv_has ls 4 [(0, .ref a_this), (1, .int p1), (2, .int p2)] := hl
  unfold f_X8_inn at h
  obtain ⟨hx, hb, hml, hown, hts, hK, hA⟩ := id C0
  have inX1 : ∀ w ∈ u_ws RX1 TX1 11, w ∈ wsX8_inn := inX1_X8_inn
  have inX5 : ∀ w ∈ u_ws RX5 TX5 4, w ∈ wsX8_inn := inX5_X8_inn
  have inX8 : ∀ w ∈ u_ws RX8 TX8 15, w ∈ wsX8_inn := inX8_X8_inn
  refine lv_iload_n hx hb dX8_inn_0 rfl (lv_at hl 1 rfl) ?_
  obtain ⟨q2, hq2, h⟩ := s_bind h
  refine s_calliS (r := q2) (As := [.int p1]) (rest := []) (wc := ([] : va_W)) (w1 := ([] : va_W)) (ws' := (wd_X8_inn cI cB cZ a_this a_house a_house_wets a_house_guests a_house_guests_cells a_house_sights a_house_sights_cells a_house_remarks a_house_remarks_cells a_house_marks a_house_marks_cells a_house_past a_house_past_cells a_spare a_image0 a_image1 a_script a_telling a_lineup a_wits house_wets house_guests_rows house_sights_rows house_remarks_rows house_marks_rows house_past_rows house_host house_rooms house_night house_wheels house_turned kept0 kept1 above below bads nos fulls)) hx hb hml hown hts hK hA hl hS (c_X8_isKind l D cI cB cZ p1 _ _ hq2) (va_cwS 1 hts gX8_inn_X8_isKind rfl rfl rfl (by decide +kernel) ⟨Nat.le_of_ble_eq_true rfl, Nat.le_of_ble_eq_true rfl⟩) [] rfl rfl rfl rfl rfl rfl (Nat.le_of_ble_eq_true rfl) dX8_inn_1 (fun H locs hS => ?_)
  refine lv_if_eq (tgt := 17) hx hb dX8_inn_4 (by decide) (fun c3 => ?_) (fun c3 => ?_)
  · replace h := s_yes c3 h
    exact w_X8_inn_b17 C0 hend  house_wets house_guests_rows house_sights_rows house_remarks_rows house_marks_rows house_past_rows house_host house_rooms house_night house_wheels house_turned bads _ _ _ h hS (lv_sub hl [0] rfl)
  replace h := s_no c3 h
  refine lv_iload_n hx hb dX8_inn_7 rfl (lv_at hl 2 rfl) ?_
  refine lv_iconst (v := (0 : Int32)) hx hb dX8_inn_8 (by decide) ?_
  refine lv_bipush (v := (7 : Int32)) hx hb dX8_inn_9 (by decide) ?_
  obtain ⟨q4, hq4, h⟩ := s_bind h
  refine s_calliS (r := q4) (As := [.int p2, .int (0 : Int32), .int (7 : Int32)]) (rest := []) (wc := ([] : va_W)) (w1 := ([] : va_W)) (ws' := (wd_X8_inn cI cB cZ a_this a_house a_house_wets a_house_guests a_house_guests_cells a_house_sights a_house_sights_cells a_house_remarks a_house_remarks_cells a_house_marks a_house_marks_cells a_house_past a_house_past_cells a_spare a_image0 a_image1 a_script a_telling a_lineup a_wits house_wets house_guests_rows house_sights_rows house_remarks_rows house_marks_rows house_past_rows house_host house_rooms house_night house_wheels house_turned kept0 kept1 above below bads nos fulls)) hx hb hml hown hts hK hA hl hS (c_X8_within l D cI cB cZ p2 (0 : Int32) (7 : Int32) _ _ hq4) (va_cwS 3 hts gX8_inn_X8_within rfl rfl rfl (by decide +kernel) ⟨Nat.le_of_ble_eq_true rfl, Nat.le_of_ble_eq_true rfl⟩) [] rfl rfl rfl rfl rfl rfl (Nat.le_of_ble_eq_true rfl) dX8_inn_11 (fun H locs hS => ?_)
  refine lv_if_ne (tgt := 22) hx hb dX8_inn_14 (by decide) (fun c5 => ?_) (fun c5 => ?_)
  · replace h := s_no c5 h
    refine lv_aload_n hx hb dX8_inn_22 rfl (lv_at hl 0 rfl) ?_
    refine s_get (C := RX8) (T := TX8) (N := 15) hx hb hts inX8 hown hK hS 0 rfl rfl 0 (by decide) (hts (.fieldLink RX8 10 "InnTurned" "house" "LInnTurned$House;") (List.mem_of_getElem? (i := 1) rfl)) rfl rfl dX8_inn_23 ?_
    refine s_getN (C := RX1) (T := TX1) (N := 11) hx hb hts inX1 hown hK hS 1 rfl rfl 1 (by decide) 7 rfl rfl rfl dX8_inn_26 ?_
    refine s_getN (C := RX5) (T := TX5) (N := 4) hx hb hts inX5 hown hK hS 3 rfl rfl 3 (by decide) 2 rfl rfl rfl dX8_inn_29 ?_
    refine lv_istore_n (lv' := [(3, .int house_guests_rows), (0, .ref a_this), (1, .int p1), (2, .int p2)]) hx hb dX8_inn_32 rfl hl (by decide) rfl (fun ls hl => ?_)
    refine lv_aload_n hx hb dX8_inn_33 rfl (lv_at hl 1 rfl) ?_
    refine s_get (C := RX8) (T := TX8) (N := 15) hx hb hts inX8 hown hK hS 0 rfl rfl 0 (by decide) (hts (.fieldLink RX8 10 "InnTurned" "house" "LInnTurned$House;") (List.mem_of_getElem? (i := 1) rfl)) rfl rfl dX8_inn_34 ?_
    refine lv_iload_n hx hb dX8_inn_37 rfl (lv_at hl 2 rfl) ?_
    refine lv_iload_n hx hb dX8_inn_38 rfl (lv_at hl 3 rfl) ?_
    obtain ⟨q6, hq6, h⟩ := s_bind h
    refine s_callvV (As := [.int p1, .int p2]) (rest := []) (wc := (wd_X1_begin cI cB cZ a_house a_house_wets a_house_guests a_house_guests_cells a_house_sights a_house_sights_cells a_house_remarks a_house_remarks_cells a_house_marks a_house_marks_cells a_house_past a_house_past_cells house_wets house_guests_rows house_sights_rows house_remarks_rows house_marks_rows house_past_rows house_host house_rooms house_night house_wheels house_turned)) (w1 := (wd_X1_begin cI cB cZ a_house a_house_wets a_house_guests a_house_guests_cells a_house_sights a_house_sights_cells a_house_remarks a_house_remarks_cells a_house_marks a_house_marks_cells a_house_past a_house_past_cells q6.1 q6.2.1 q6.2.2.1 q6.2.2.2.1 q6.2.2.2.2.1 q6.2.2.2.2.2.1 q6.2.2.2.2.2.2.1 q6.2.2.2.2.2.2.2.1 q6.2.2.2.2.2.2.2.2.1 q6.2.2.2.2.2.2.2.2.2.1 q6.2.2.2.2.2.2.2.2.2.2)) (ws' := (wd_X8_inn cI cB cZ a_this a_house a_house_wets a_house_guests a_house_guests_cells a_house_sights a_house_sights_cells a_house_remarks a_house_remarks_cells a_house_marks a_house_marks_cells a_house_past a_house_past_cells a_spare a_image0 a_image1 a_script a_telling a_lineup a_wits q6.1 q6.2.1 q6.2.2.1 q6.2.2.2.1 q6.2.2.2.2.1 q6.2.2.2.2.2.1 q6.2.2.2.2.2.2.1 q6.2.2.2.2.2.2.2.1 q6.2.2.2.2.2.2.2.2.1 q6.2.2.2.2.2.2.2.2.2.1 q6.2.2.2.2.2.2.2.2.2.2 kept0 kept1 above below bads nos fulls)) hx hb hml hown hts hK hA hl hS (c_X1_begin l D cI cB cZ a_house a_house_wets a_house_guests a_house_guests_cells a_house_sights a_house_sights_cells a_house_remarks a_house_remarks_cells a_house_marks a_house_marks_cells a_house_past a_house_past_cells house_wets house_guests_rows house_sights_rows house_remarks_rows house_marks_rows house_past_rows house_host house_rooms house_night house_wheels house_turned p1 p2 _ _ hq6) (cwV 2 hts gX8_inn_X1_begin rfl rfl rfl (by decide +kernel) ⟨Nat.le_of_ble_eq_true rfl, Nat.le_of_ble_eq_true rfl⟩) 1 rfl rfl [1, 2, 3, 4, 5, 6, 7] rfl rfl rfl rfl rfl rfl (Nat.le_of_ble_eq_true rfl) dX8_inn_39 (fun H locs hS => ?_)
    refine lv_iload_n hx hb dX8_inn_42 rfl (lv_at hl 0 rfl) ?_
    obtain rfl := Option.some.inj h
    exact hend _ _ _ _ dX8_inn_43 hS
  replace h := s_yes c5 h
  exact w_X8_inn_b17 C0 hend  house_wets house_guests_rows house_sights_rows house_remarks_rows house_marks_rows house_past_rows house_host house_rooms house_night house_wheels house_turned bads _ _ _ h hS (lv_sub hl [0] rfl)

-- InnTurned.landlord(I)I
def wd_X8_landlord (cI cB cZ : ClassId) (a_this : Nat) (a_house : Nat) (a_house_wets : Nat) (a_house_guests : Nat) (a_house_sights : Nat) (a_house_remarks : Nat) (a_house_marks : Nat) (a_house_past : Nat) (a_house_past_cells : Nat) (a_spare : Nat) (a_image0 : Nat) (a_image1 : Nat) (a_script : Nat) (a_telling : Nat) (a_lineup : Nat) (a_wits : Nat)  (house_past_rows : Int32) (house_host : Int32) (house_rooms : Int32) (house_night : Int32) (house_wheels : Int32) (house_turned : Int32) (kept0 : Int32) (kept1 : Int32) (above : Int32) (below : Int32) (bads : Int32) (nos : Int32) (fulls : Int32) : va_W := [(a_this, .inr (6, [.ref a_house, .ref a_spare, .ref a_image0, .ref a_image1, .ref a_script, .ref a_telling, .ref a_lineup, .ref a_wits, .int kept0, .int kept1, .int above, .int below, .int bads, .int nos, .int fulls])), (a_house, .inr (0, [.ref a_house_wets, .ref a_house_guests, .ref a_house_sights, .ref a_house_remarks, .ref a_house_marks, .ref a_house_past, .int house_host, .int house_rooms, .int house_night, .int house_wheels, .int house_turned])), (a_house_past, .inr (3, [.int 24, .int 8, .ref a_house_past_cells, .int house_past_rows]))]
abbrev rm_X8_landlord : Room := { frames := 2, cells := 0, slots := 0, locals := 42 }
set_option maxRecDepth 20000 in
theorem inX1_X8_landlord : ∀ w ∈ u_ws RX1 TX1 11, w ∈ wsX8_landlord := by decide +kernel
set_option maxRecDepth 20000 in
theorem inX5_X8_landlord : ∀ w ∈ u_ws RX5 TX5 4, w ∈ wsX8_landlord := by decide +kernel
set_option maxRecDepth 20000 in
theorem inX8_X8_landlord : ∀ w ∈ u_ws RX8 TX8 15, w ∈ wsX8_landlord := by decide +kernel
def f_X8_landlord   (house_past_rows : Int32) (house_host : Int32) (bads : Int32) (p1 : Int32) : Option (Int32 × Int32 × Int32 × Int32) := ((f_X8_isKind p1).bind fun q1 => (if q1 = 0 then ((f_X8_bad bads).bind fun q4 => some (q4.1, house_past_rows, house_host, q4.2)) else ((f_X5_empty house_past_rows).bind fun q3 => some (house_host, q3, p1, bads))))
set_option maxHeartbeats 4000000 in
set_option maxRecDepth 100000 in
theorem c_X8_landlord (l : Launch) (D : va_G) (cI cB cZ : ClassId) (a_this : Nat) (a_house : Nat) (a_house_wets : Nat) (a_house_guests : Nat) (a_house_sights : Nat) (a_house_remarks : Nat) (a_house_marks : Nat) (a_house_past : Nat) (a_house_past_cells : Nat) (a_spare : Nat) (a_image0 : Nat) (a_image1 : Nat) (a_script : Nat) (a_telling : Nat) (a_lineup : Nat) (a_wits : Nat) (house_past_rows : Int32) (house_host : Int32) (house_rooms : Int32) (house_night : Int32) (house_wheels : Int32) (house_turned : Int32) (kept0 : Int32) (kept1 : Int32) (above : Int32) (below : Int32) (bads : Int32) (nos : Int32) (fulls : Int32) (p1 : Int32) (rv : Int32 × Int32 × Int32 × Int32) (sz : Nat) (hf : f_X8_landlord house_past_rows house_host bads p1 = some rv) : Met l yX8_landlord wsX8_landlord rm_X8_landlord (sPc D vwCl (s_tys cI cB cZ) [.ref a_this, .int p1] (wd_X8_landlord cI cB cZ a_this a_house a_house_wets a_house_guests a_house_sights a_house_remarks a_house_marks a_house_past a_house_past_cells a_spare a_image0 a_image1 a_script a_telling a_lineup a_wits house_past_rows house_host house_rooms house_night house_wheels house_turned kept0 kept1 above below bads nos fulls) sz) (sQi D vwCl (wd_X8_landlord cI cB cZ a_this a_house a_house_wets a_house_guests a_house_sights a_house_remarks a_house_marks a_house_past a_house_past_cells a_spare a_image0 a_image1 a_script a_telling a_lineup a_wits house_past_rows house_host house_rooms house_night house_wheels house_turned kept0 kept1 above below bads nos fulls) (wd_X8_landlord cI cB cZ a_this a_house a_house_wets a_house_guests a_house_sights a_house_remarks a_house_marks a_house_past a_house_past_cells a_spare a_image0 a_image1 a_script a_telling a_lineup a_wits rv.2.1 rv.2.2.1 house_rooms house_night house_wheels house_turned kept0 kept1 above below rv.2.2.2 nos fulls) sz rv.1) 0 0 (va_A (wd_X8_landlord cI cB cZ a_this a_house a_house_wets a_house_guests a_house_sights a_house_remarks a_house_marks a_house_past a_house_past_cells a_spare a_image0 a_image1 a_script a_telling a_lineup a_wits house_past_rows house_host house_rooms house_night house_wheels house_turned kept0 kept1 above below bads nos fulls) sz) := by
  refine s_enter_n (cc := cX8_landlord) (nL := 3) (r := rv.1) (by decide) rfl (Nat.le_of_ble_eq_true rfl) ?_
  intro p e s m args below meth c A Q C0 hend ls hl hS
  have h := hf
  clear hf
  replace hl : lv_has ls 3 [(0, .ref a_this), (1, .int p1)] := hl
  unfold f_X8_landlord at h
  obtain ⟨hx, hb, hml, hown, hts, hK, hA⟩ := id C0
  have inX1 : ∀ w ∈ u_ws RX1 TX1 11, w ∈ wsX8_landlord := inX1_X8_landlord
  have inX5 : ∀ w ∈ u_ws RX5 TX5 4, w ∈ wsX8_landlord := inX5_X8_landlord
  have inX8 : ∀ w ∈ u_ws RX8 TX8 15, w ∈ wsX8_landlord := inX8_X8_landlord
  refine lv_iload_n hx hb dX8_landlord_0 rfl (lv_at hl 1 rfl) ?_
  obtain ⟨q1, hq1, h⟩ := s_bind h
  refine s_calliS (r := q1) (As := [.int p1]) (rest := []) (wc := ([] : va_W)) (w1 := ([] : va_W)) (ws' := (wd_X8_landlord cI cB cZ a_this a_house a_house_wets a_house_guests a_house_sights a_house_remarks a_house_marks a_house_past a_house_past_cells a_spare a_image0 a_image1 a_script a_telling a_lineup a_wits house_past_rows house_host house_rooms house_night house_wheels house_turned kept0 kept1 above below bads nos fulls)) hx hb hml hown hts hK hA hl hS (c_X8_isKind l D cI cB cZ p1 _ _ hq1) (va_cwS 1 hts gX8_landlord_X8_isKind rfl rfl rfl (by decide +kernel) ⟨Nat.le_of_ble_eq_true rfl, Nat.le_of_ble_eq_true rfl⟩) [] rfl rfl rfl rfl rfl rfl (Nat.le_of_ble_eq_true rfl) dX8_landlord_1 (fun H locs hS => ?_)
  refine lv_if_ne (tgt := 12) hx hb dX8_landlord_4 (by decide) (fun c2 => ?_) (fun c2 => ?_)
  · replace h := s_no c2 h
    refine lv_aload_n hx hb dX8_landlord_12 rfl (lv_at hl 0 rfl) ?_
    refine s_get (C := RX8) (T := TX8) (N := 15) hx hb hts inX8 hown hK hS 0 rfl rfl 0 (by decide) (hts (.fieldLink RX8 10 "InnTurned" "house" "LInnTurned$House;") (List.mem_of_getElem? (i := 1) rfl)) rfl rfl dX8_landlord_13 ?_
    refine s_getN (C := RX1) (T := TX1) (N := 11) hx hb hts inX1 hown hK hS 1 rfl rfl 6 (by decide) 17 rfl rfl rfl dX8_landlord_16 ?_
    refine lv_istore_n (lv' := [(2, .int house_host), (0, .ref a_this), (1, .int p1)]) hx hb dX8_landlord_19 rfl hl (by decide) rfl (fun ls hl => ?_)
    refine lv_aload_n hx hb dX8_landlord_20 rfl (lv_at hl 1 rfl) ?_
    refine s_get (C := RX8) (T := TX8) (N := 15) hx hb hts inX8 hown hK hS 0 rfl rfl 0 (by decide) (hts (.fieldLink RX8 10 "InnTurned" "house" "LInnTurned$House;") (List.mem_of_getElem? (i := 1) rfl)) rfl rfl dX8_landlord_21 ?_
    refine lv_iload_n hx hb dX8_landlord_24 rfl (lv_at hl 2 rfl) ?_
    refine s_putN (ws' := (wd_X8_landlord cI cB cZ a_this a_house a_house_wets a_house_guests a_house_sights a_house_remarks a_house_marks a_house_past a_house_past_cells a_spare a_image0 a_image1 a_script a_telling a_lineup a_wits house_past_rows p1 house_rooms house_night house_wheels house_turned kept0 kept1 above below bads nos fulls)) (C := RX1) (T := TX1) (N := 11) hx hb hts inX1 tyX1 tyX1_ok nmX1 hown hK hS 1 rfl rfl 6 (by decide) 17 rfl rfl rfl rfl rfl (Nat.le_of_ble_eq_true rfl) rfl dX8_landlord_25 (fun H locs hS => ?_)
    refine lv_aload_n hx hb dX8_landlord_28 rfl (lv_at hl 1 rfl) ?_
    refine s_get (C := RX8) (T := TX8) (N := 15) hx hb hts inX8 hown hK hS 0 rfl rfl 0 (by decide) (hts (.fieldLink RX8 10 "InnTurned" "house" "LInnTurned$House;") (List.mem_of_getElem? (i := 1) rfl)) rfl rfl dX8_landlord_29 ?_
    refine s_getN (C := RX1) (T := TX1) (N := 11) hx hb hts inX1 hown hK hS 1 rfl rfl 5 (by decide) 16 rfl rfl rfl dX8_landlord_32 ?_
    obtain ⟨q3, hq3, h⟩ := s_bind h
    refine s_callvV (As := []) (rest := []) (wc := (wd_X5_empty cI cB cZ a_house_past a_house_past_cells (24 : Int32) (8 : Int32) house_past_rows)) (w1 := (wd_X5_empty cI cB cZ a_house_past a_house_past_cells (24 : Int32) (8 : Int32) q3)) (ws' := (wd_X8_landlord cI cB cZ a_this a_house a_house_wets a_house_guests a_house_sights a_house_remarks a_house_marks a_house_past a_house_past_cells a_spare a_image0 a_image1 a_script a_telling a_lineup a_wits q3 p1 house_rooms house_night house_wheels house_turned kept0 kept1 above below bads nos fulls)) hx hb hml hown hts hK hA hl hS (c_X5_empty l D cI cB cZ a_house_past a_house_past_cells (24 : Int32) (8 : Int32) house_past_rows _ _ hq3) (cwV 0 hts gX8_landlord_X5_empty rfl rfl rfl (by decide +kernel) ⟨Nat.le_of_ble_eq_true rfl, Nat.le_of_ble_eq_true rfl⟩) 2 rfl rfl [2] rfl rfl rfl rfl rfl rfl (Nat.le_of_ble_eq_true rfl) dX8_landlord_35 (fun H locs hS => ?_)
    refine lv_iload_n hx hb dX8_landlord_38 rfl (lv_at hl 0 rfl) ?_
    obtain rfl := Option.some.inj h
    exact hend _ _ _ _ dX8_landlord_39 hS
  replace h := s_yes c2 h
  refine lv_aload_n hx hb dX8_landlord_7 rfl (lv_at hl 0 rfl) ?_
  obtain ⟨q4, hq4, h⟩ := s_bind h
  refine s_calliV (r := q4.1) (As := []) (rest := []) (wc := (wd_X8_bad cI cB cZ a_this a_house a_spare a_image0 a_image1 a_script a_telling a_lineup a_wits kept0 kept1 above below bads nos fulls)) (w1 := (wd_X8_bad cI cB cZ a_this a_house a_spare a_image0 a_image1 a_script a_telling a_lineup a_wits kept0 kept1 above below q4.2 nos fulls)) (ws' := (wd_X8_landlord cI cB cZ a_this a_house a_house_wets a_house_guests a_house_sights a_house_remarks a_house_marks a_house_past a_house_past_cells a_spare a_image0 a_image1 a_script a_telling a_lineup a_wits house_past_rows house_host house_rooms house_night house_wheels house_turned kept0 kept1 above below q4.2 nos fulls)) hx hb hml hown hts hK hA hl hS (c_X8_bad l D cI cB cZ a_this a_house a_spare a_image0 a_image1 a_script a_telling a_lineup a_wits kept0 kept1 above below bads nos fulls _ _ hq4) (cwV 0 hts gX8_landlord_X8_bad rfl rfl rfl (by decide +kernel) ⟨Nat.le_of_ble_eq_true rfl, Nat.le_of_ble_eq_true rfl⟩) 0 rfl rfl [0] rfl rfl rfl rfl rfl rfl (Nat.le_of_ble_eq_true rfl) dX8_landlord_8 (fun H locs hS => ?_)
  obtain rfl := Option.some.inj h
  exact hend _ _ _ _ dX8_landlord_11 hS

-- InnTurned.wet(II)I
def wd_X8_wet (cI cB cZ : ClassId) (a_this : Nat) (a_house : Nat) (a_house_wets : Nat) (a_house_guests : Nat) (a_house_sights : Nat) (a_house_remarks : Nat) (a_house_marks : Nat) (a_house_past : Nat) (a_house_past_cells : Nat) (a_spare : Nat) (a_image0 : Nat) (a_image1 : Nat) (a_script : Nat) (a_telling : Nat) (a_lineup : Nat) (a_wits : Nat)  (house_wets : (Nat → Int32)) (house_past_rows : Int32) (house_host : Int32) (house_rooms : Int32) (house_night : Int32) (house_wheels : Int32) (house_turned : Int32) (kept0 : Int32) (kept1 : Int32) (above : Int32) (below : Int32) (bads : Int32) (nos : Int32) (fulls : Int32) : va_W := [(a_this, .inr (6, [.ref a_house, .ref a_spare, .ref a_image0, .ref a_image1, .ref a_script, .ref a_telling, .ref a_lineup, .ref a_wits, .int kept0, .int kept1, .int above, .int below, .int bads, .int nos, .int fulls])), (a_house, .inr (0, [.ref a_house_wets, .ref a_house_guests, .ref a_house_sights, .ref a_house_remarks, .ref a_house_marks, .ref a_house_past, .int house_host, .int house_rooms, .int house_night, .int house_wheels, .int house_turned])), (a_house_wets, .inl (cI, 6, .inl house_wets)), (a_house_past, .inr (3, [.int 24, .int 8, .ref a_house_past_cells, .int house_past_rows]))]
abbrev rm_X8_wet : Room := { frames := 1, cells := 0, slots := 0, locals := 22 }
set_option maxRecDepth 20000 in
theorem inX1_X8_wet : ∀ w ∈ u_ws RX1 TX1 11, w ∈ wsX8_wet := by decide +kernel
set_option maxRecDepth 20000 in
theorem inX5_X8_wet : ∀ w ∈ u_ws RX5 TX5 4, w ∈ wsX8_wet := by decide +kernel
set_option maxRecDepth 20000 in
theorem inX8_X8_wet : ∀ w ∈ u_ws RX8 TX8 15, w ∈ wsX8_wet := by decide +kernel
def f_X8_wet_b18   (house_wets : (Nat → Int32)) (house_past_rows : Int32) (bads : Int32) : Option (Int32 × (Nat → Int32) × Int32 × Int32) := ((f_X8_bad bads).bind fun q1 => some (q1.1, house_wets, house_past_rows, q1.2))
set_option maxHeartbeats 4000000 in
set_option maxRecDepth 100000 in
theorem w_X8_wet_b18 {p : Program} {l : Launch} {e : Env} {s : State} {m : MethodId} {args : Array Value} {below : List Frame} {meth : Method} {c : Code} {A : Nat → Prop} {Q : State → Prop} {D : va_G} {cI cB cZ : ClassId} {a_this a_house a_house_wets a_house_guests a_house_sights a_house_remarks a_house_marks a_house_past a_house_past_cells a_spare a_image0 a_image1 a_script a_telling a_lineup a_wits : Nat} {house_host : Int32} {house_rooms : Int32} {house_night : Int32} {house_wheels : Int32} {house_turned : Int32} {kept0 : Int32} {kept1 : Int32} {above : Int32} {below : Int32} {nos : Int32} {fulls : Int32} (C0 : Cx p s m args c cX8_wet 4 RX8 wsX8_wet D (s_tys cI cB cZ) A) {rv : Int32 × (Nat → Int32) × Int32 × Int32} (hend : ∀ (pc : Nat) (H : Heap) (locs : List Loc) (ls : Array Slot), decode cX8_wet pc = .ok (.ireturn, 1) → sS D vwCl A s.heap (wd_X8_wet cI cB cZ a_this a_house a_house_wets a_house_guests a_house_sights a_house_remarks a_house_marks a_house_past a_house_past_cells a_spare a_image0 a_image1 a_script a_telling a_lineup a_wits rv.2.1 rv.2.2.1 house_host house_rooms house_night house_wheels house_turned kept0 kept1 above below rv.2.2.2 nos fulls) H locs → W p l e rm_X8_wet s m args below meth c H locs 0 0 Q (F0 m pc ls [.int rv.1])) : ∀ (house_wets : (Nat → Int32)) (house_past_rows : Int32) (bads : Int32) (H : Heap) (locs : List Loc) (ls : Array Slot), f_X8_wet_b18  house_wets house_past_rows bads = some rv → sS D vwCl A s.heap (wd_X8_wet cI cB cZ a_this a_house a_house_wets a_house_guests a_house_sights a_house_remarks a_house_marks a_house_past a_house_past_cells a_spare a_image0 a_image1 a_script a_telling a_lineup a_wits house_wets house_past_rows house_host house_rooms house_night house_wheels house_turned kept0 kept1 above below bads nos fulls) H locs → lv_has ls 4 [(0, .ref a_this)] → W p l e rm_X8_wet s m args below meth c H locs 0 0 Q (F0 m 18 ls []) := by
  obtain ⟨hx, hb, hml, hown, hts, hK, hA⟩ := id C0
  have inX1 : ∀ w ∈ u_ws RX1 TX1 11, w ∈ wsX8_wet := inX1_X8_wet
  have inX5 : ∀ w ∈ u_ws RX5 TX5 4, w ∈ wsX8_wet := inX5_X8_wet
  have inX8 : ∀ w ∈ u_ws RX8 TX8 15, w ∈ wsX8_wet := inX8_X8_wet
  intro house_wets house_past_rows bads H locs ls h hS hl
  unfold f_X8_wet_b18 at h
  refine lv_aload_n hx hb dX8_wet_18 rfl (lv_at hl 0 rfl) ?_
  obtain ⟨q1, hq1, h⟩ := s_bind h
  refine s_calliV (r := q1.1) (As := []) (rest := []) (wc := (wd_X8_bad cI cB cZ a_this a_house a_spare a_image0 a_image1 a_script a_telling a_lineup a_wits kept0 kept1 above below bads nos fulls)) (w1 := (wd_X8_bad cI cB cZ a_this a_house a_spare a_image0 a_image1 a_script a_telling a_lineup a_wits kept0 kept1 above below q1.2 nos fulls)) (ws' := (wd_X8_wet cI cB cZ a_this a_house a_house_wets a_house_guests a_house_sights a_house_remarks a_house_marks a_house_past a_house_past_cells a_spare a_image0 a_image1 a_script a_telling a_lineup a_wits house_wets house_past_rows house_host house_rooms house_night house_wheels house_turned kept0 kept1 above below q1.2 nos fulls)) hx hb hml hown hts hK hA hl hS (c_X8_bad l D cI cB cZ a_this a_house a_spare a_image0 a_image1 a_script a_telling a_lineup a_wits kept0 kept1 above below bads nos fulls _ _ hq1) (cwV 0 hts gX8_wet_X8_bad rfl rfl rfl (by decide +kernel) ⟨Nat.le_of_ble_eq_true rfl, Nat.le_of_ble_eq_true rfl⟩) 0 rfl rfl [0] rfl rfl rfl rfl rfl rfl (Nat.le_of_ble_eq_true rfl) dX8_wet_19 (fun H locs hS => ?_)
  obtain rfl := Option.some.inj h
  exact hend _ _ _ _ dX8_wet_22 hS
def f_X8_wet   (house_wets : (Nat → Int32)) (house_past_rows : Int32) (bads : Int32) (p1 : Int32) (p2 : Int32) : Option (Int32 × (Nat → Int32) × Int32 × Int32) := ((f_X8_within p1 (0 : Int32) (5 : Int32)).bind fun q2 => (if q2 = 0 then f_X8_wet_b18   house_wets house_past_rows bads else ((f_X8_within p2 (0 : Int32) (4 : Int32)).bind fun q4 => (if q4 = 0 then f_X8_wet_b18   house_wets house_past_rows bads else ((f_X1_wetOf house_wets p1).bind fun q6 => ((f_X1_setWet house_wets p1 p2).bind fun q7 => ((f_X5_empty house_past_rows).bind fun q8 => some (q6, q7, q8, bads))))))))
set_option maxHeartbeats 4000000 in
set_option maxRecDepth 100000 in
theorem c_X8_wet (l : Launch) (D : va_G) (cI cB cZ : ClassId) (a_this : Nat) (a_house : Nat) (a_house_wets : Nat) (a_house_guests : Nat) (a_house_sights : Nat) (a_house_remarks : Nat) (a_house_marks : Nat) (a_house_past : Nat) (a_house_past_cells : Nat) (a_spare : Nat) (a_image0 : Nat) (a_image1 : Nat) (a_script : Nat) (a_telling : Nat) (a_lineup : Nat) (a_wits : Nat) (house_wets : (Nat → Int32)) (house_past_rows : Int32) (house_host : Int32) (house_rooms : Int32) (house_night : Int32) (house_wheels : Int32) (house_turned : Int32) (kept0 : Int32) (kept1 : Int32) (above : Int32) (below : Int32) (bads : Int32) (nos : Int32) (fulls : Int32) (p1 : Int32) (p2 : Int32) (rv : Int32 × (Nat → Int32) × Int32 × Int32) (sz : Nat) (hf : f_X8_wet house_wets house_past_rows bads p1 p2 = some rv) : Met l yX8_wet wsX8_wet rm_X8_wet (sPc D vwCl (s_tys cI cB cZ) [.ref a_this, .int p1, .int p2] (wd_X8_wet cI cB cZ a_this a_house a_house_wets a_house_guests a_house_sights a_house_remarks a_house_marks a_house_past a_house_past_cells a_spare a_image0 a_image1 a_script a_telling a_lineup a_wits house_wets house_past_rows house_host house_rooms house_night house_wheels house_turned kept0 kept1 above below bads nos fulls) sz) (sQi D vwCl (wd_X8_wet cI cB cZ a_this a_house a_house_wets a_house_guests a_house_sights a_house_remarks a_house_marks a_house_past a_house_past_cells a_spare a_image0 a_image1 a_script a_telling a_lineup a_wits house_wets house_past_rows house_host house_rooms house_night house_wheels house_turned kept0 kept1 above below bads nos fulls) (wd_X8_wet cI cB cZ a_this a_house a_house_wets a_house_guests a_house_sights a_house_remarks a_house_marks a_house_past a_house_past_cells a_spare a_image0 a_image1 a_script a_telling a_lineup a_wits rv.2.1 rv.2.2.1 house_host house_rooms house_night house_wheels house_turned kept0 kept1 above below rv.2.2.2 nos fulls) sz rv.1) 0 0 (va_A (wd_X8_wet cI cB cZ a_this a_house a_house_wets a_house_guests a_house_sights a_house_remarks a_house_marks a_house_past a_house_past_cells a_spare a_image0 a_image1 a_script a_telling a_lineup a_wits house_wets house_past_rows house_host house_rooms house_night house_wheels house_turned kept0 kept1 above below bads nos fulls) sz) := by
  refine s_enter_n (cc := cX8_wet) (nL := 4) (r := rv.1) (by decide) rfl (Nat.le_of_ble_eq_true rfl) ?_
  intro p e s m args below meth c A Q C0 hend ls hl hS
  have h := hf
  clear hf
  replace hl : lv_has ls 4 [(0, .ref a_this), (1, .int p1), (2, .int p2)] := hl
  unfold f_X8_wet at h
  obtain ⟨hx, hb, hml, hown, hts, hK, hA⟩ := id C0
  have inX1 : ∀ w ∈ u_ws RX1 TX1 11, w ∈ wsX8_wet := inX1_X8_wet
  have inX5 : ∀ w ∈ u_ws RX5 TX5 4, w ∈ wsX8_wet := inX5_X8_wet
  have inX8 : ∀ w ∈ u_ws RX8 TX8 15, w ∈ wsX8_wet := inX8_X8_wet
  refine lv_iload_n hx hb dX8_wet_0 rfl (lv_at hl 1 rfl) ?_
  refine lv_iconst (v := (0 : Int32)) hx hb dX8_wet_1 (by decide) ?_
  refine lv_iconst (v := (5 : Int32)) hx hb dX8_wet_2 (by decide) ?_
  obtain ⟨q2, hq2, h⟩ := s_bind h
  refine s_calliS (r := q2) (As := [.int p1, .int (0 : Int32), .int (5 : Int32)]) (rest := []) (wc := ([] : va_W)) (w1 := ([] : va_W)) (ws' := (wd_X8_wet cI cB cZ a_this a_house a_house_wets a_house_guests a_house_sights a_house_remarks a_house_marks a_house_past a_house_past_cells a_spare a_image0 a_image1 a_script a_telling a_lineup a_wits house_wets house_past_rows house_host house_rooms house_night house_wheels house_turned kept0 kept1 above below bads nos fulls)) hx hb hml hown hts hK hA hl hS (c_X8_within l D cI cB cZ p1 (0 : Int32) (5 : Int32) _ _ hq2) (va_cwS 3 hts gX8_wet_X8_within rfl rfl rfl (by decide +kernel) ⟨Nat.le_of_ble_eq_true rfl, Nat.le_of_ble_eq_true rfl⟩) [] rfl rfl rfl rfl rfl rfl (Nat.le_of_ble_eq_true rfl) dX8_wet_3 (fun H locs hS => ?_)
  refine lv_if_eq (tgt := 18) hx hb dX8_wet_6 (by decide) (fun c3 => ?_) (fun c3 => ?_)
  · replace h := s_yes c3 h
    exact w_X8_wet_b18 C0 hend  house_wets house_past_rows bads _ _ _ h hS (lv_sub hl [0] rfl)
  replace h := s_no c3 h
  refine lv_iload_n hx hb dX8_wet_9 rfl (lv_at hl 2 rfl) ?_
  refine lv_iconst (v := (0 : Int32)) hx hb dX8_wet_10 (by decide) ?_
  refine lv_iconst (v := (4 : Int32)) hx hb dX8_wet_11 (by decide) ?_
  obtain ⟨q4, hq4, h⟩ := s_bind h
  refine s_calliS (r := q4) (As := [.int p2, .int (0 : Int32), .int (4 : Int32)]) (rest := []) (wc := ([] : va_W)) (w1 := ([] : va_W)) (ws' := (wd_X8_wet cI cB cZ a_this a_house a_house_wets a_house_guests a_house_sights a_house_remarks a_house_marks a_house_past a_house_past_cells a_spare a_image0 a_image1 a_script a_telling a_lineup a_wits house_wets house_past_rows house_host house_rooms house_night house_wheels house_turned kept0 kept1 above below bads nos fulls)) hx hb hml hown hts hK hA hl hS (c_X8_within l D cI cB cZ p2 (0 : Int32) (4 : Int32) _ _ hq4) (va_cwS 3 hts gX8_wet_X8_within rfl rfl rfl (by decide +kernel) ⟨Nat.le_of_ble_eq_true rfl, Nat.le_of_ble_eq_true rfl⟩) [] rfl rfl rfl rfl rfl rfl (Nat.le_of_ble_eq_true rfl) dX8_wet_12 (fun H locs hS => ?_)
  refine lv_if_ne (tgt := 23) hx hb dX8_wet_15 (by decide) (fun c5 => ?_) (fun c5 => ?_)
  · replace h := s_no c5 h
    refine lv_aload_n hx hb dX8_wet_23 rfl (lv_at hl 0 rfl) ?_
    refine s_get (C := RX8) (T := TX8) (N := 15) hx hb hts inX8 hown hK hS 0 rfl rfl 0 (by decide) (hts (.fieldLink RX8 10 "InnTurned" "house" "LInnTurned$House;") (List.mem_of_getElem? (i := 1) rfl)) rfl rfl dX8_wet_24 ?_
    refine lv_iload_n hx hb dX8_wet_27 rfl (lv_at hl 1 rfl) ?_
    obtain ⟨q6, hq6, h⟩ := s_bind h
    refine s_calliV (r := q6) (As := [.int p1]) (rest := []) (wc := (wd_X1_wetOf cI cB cZ a_house a_house_wets a_house_guests a_house_sights a_house_remarks a_house_marks a_house_past house_wets house_host house_rooms house_night house_wheels house_turned)) (w1 := (wd_X1_wetOf cI cB cZ a_house a_house_wets a_house_guests a_house_sights a_house_remarks a_house_marks a_house_past house_wets house_host house_rooms house_night house_wheels house_turned)) (ws' := (wd_X8_wet cI cB cZ a_this a_house a_house_wets a_house_guests a_house_sights a_house_remarks a_house_marks a_house_past a_house_past_cells a_spare a_image0 a_image1 a_script a_telling a_lineup a_wits house_wets house_past_rows house_host house_rooms house_night house_wheels house_turned kept0 kept1 above below bads nos fulls)) hx hb hml hown hts hK hA hl hS (c_X1_wetOf l D cI cB cZ a_house a_house_wets a_house_guests a_house_sights a_house_remarks a_house_marks a_house_past house_wets house_host house_rooms house_night house_wheels house_turned p1 _ _ hq6) (cwV 1 hts gX8_wet_X1_wetOf rfl rfl rfl (by decide +kernel) ⟨Nat.le_of_ble_eq_true rfl, Nat.le_of_ble_eq_true rfl⟩) 1 rfl rfl [1, 2] rfl rfl rfl rfl rfl rfl (Nat.le_of_ble_eq_true rfl) dX8_wet_28 (fun H locs hS => ?_)
    refine lv_istore_n (lv' := [(3, .int q6), (0, .ref a_this), (1, .int p1), (2, .int p2)]) hx hb dX8_wet_31 rfl hl (by decide) rfl (fun ls hl => ?_)
    refine lv_aload_n hx hb dX8_wet_32 rfl (lv_at hl 1 rfl) ?_
    refine s_get (C := RX8) (T := TX8) (N := 15) hx hb hts inX8 hown hK hS 0 rfl rfl 0 (by decide) (hts (.fieldLink RX8 10 "InnTurned" "house" "LInnTurned$House;") (List.mem_of_getElem? (i := 1) rfl)) rfl rfl dX8_wet_33 ?_
    refine lv_iload_n hx hb dX8_wet_36 rfl (lv_at hl 2 rfl) ?_
    refine lv_iload_n hx hb dX8_wet_37 rfl (lv_at hl 3 rfl) ?_
    obtain ⟨q7, hq7, h⟩ := s_bind h
    refine s_callvV (As := [.int p1, .int p2]) (rest := []) (wc := (wd_X1_setWet cI cB cZ a_house a_house_wets a_house_guests a_house_sights a_house_remarks a_house_marks a_house_past house_wets house_host house_rooms house_night house_wheels house_turned)) (w1 := (wd_X1_setWet cI cB cZ a_house a_house_wets a_house_guests a_house_sights a_house_remarks a_house_marks a_house_past q7 house_host house_rooms house_night house_wheels house_turned)) (ws' := (wd_X8_wet cI cB cZ a_this a_house a_house_wets a_house_guests a_house_sights a_house_remarks a_house_marks a_house_past a_house_past_cells a_spare a_image0 a_image1 a_script a_telling a_lineup a_wits q7 house_past_rows house_host house_rooms house_night house_wheels house_turned kept0 kept1 above below bads nos fulls)) hx hb hml hown hts hK hA hl hS (c_X1_setWet l D cI cB cZ a_house a_house_wets a_house_guests a_house_sights a_house_remarks a_house_marks a_house_past house_wets house_host house_rooms house_night house_wheels house_turned p1 p2 _ _ hq7) (cwV 2 hts gX8_wet_X1_setWet rfl rfl rfl (by decide +kernel) ⟨Nat.le_of_ble_eq_true rfl, Nat.le_of_ble_eq_true rfl⟩) 1 rfl rfl [1, 2] rfl rfl rfl rfl rfl rfl (Nat.le_of_ble_eq_true rfl) dX8_wet_38 (fun H locs hS => ?_)
    refine lv_aload_n hx hb dX8_wet_41 rfl (lv_at hl 1 rfl) ?_
    refine s_get (C := RX8) (T := TX8) (N := 15) hx hb hts inX8 hown hK hS 0 rfl rfl 0 (by decide) (hts (.fieldLink RX8 10 "InnTurned" "house" "LInnTurned$House;") (List.mem_of_getElem? (i := 1) rfl)) rfl rfl dX8_wet_42 ?_
    refine s_getN (C := RX1) (T := TX1) (N := 11) hx hb hts inX1 hown hK hS 1 rfl rfl 5 (by decide) 16 rfl rfl rfl dX8_wet_45 ?_
    obtain ⟨q8, hq8, h⟩ := s_bind h
    refine s_callvV (As := []) (rest := []) (wc := (wd_X5_empty cI cB cZ a_house_past a_house_past_cells (24 : Int32) (8 : Int32) house_past_rows)) (w1 := (wd_X5_empty cI cB cZ a_house_past a_house_past_cells (24 : Int32) (8 : Int32) q8)) (ws' := (wd_X8_wet cI cB cZ a_this a_house a_house_wets a_house_guests a_house_sights a_house_remarks a_house_marks a_house_past a_house_past_cells a_spare a_image0 a_image1 a_script a_telling a_lineup a_wits q7 q8 house_host house_rooms house_night house_wheels house_turned kept0 kept1 above below bads nos fulls)) hx hb hml hown hts hK hA hl hS (c_X5_empty l D cI cB cZ a_house_past a_house_past_cells (24 : Int32) (8 : Int32) house_past_rows _ _ hq8) (cwV 0 hts gX8_wet_X5_empty rfl rfl rfl (by decide +kernel) ⟨Nat.le_of_ble_eq_true rfl, Nat.le_of_ble_eq_true rfl⟩) 3 rfl rfl [3] rfl rfl rfl rfl rfl rfl (Nat.le_of_ble_eq_true rfl) dX8_wet_48 (fun H locs hS => ?_)
    refine lv_iload_n hx hb dX8_wet_51 rfl (lv_at hl 0 rfl) ?_
    obtain rfl := Option.some.inj h
    exact hend _ _ _ _ dX8_wet_52 hS
  replace h := s_yes c5 h
  exact w_X8_wet_b18 C0 hend  house_wets house_past_rows bads _ _ _ h hS (lv_sub hl [0] rfl)

-- InnTurned.isWord(I)Z
abbrev rm_X8_isWord : Room := { frames := 1, cells := 0, slots := 0, locals := 22 }
def f_X8_isWord    (p1 : Int32) : Option (Int32) := ((f_X8_within p1 (0 : Int32) (9 : Int32)).bind fun q1 => (if q1 = 0 ∨ q1 = 1 then some (q1) else none))
set_option maxHeartbeats 4000000 in
set_option maxRecDepth 100000 in
theorem c_X8_isWord (l : Launch) (D : va_G) (cI cB cZ : ClassId) (p1 : Int32) (rv : Int32) (sz : Nat) (hf : f_X8_isWord p1 = some rv) : Met l yX8_isWord wsX8_isWord rm_X8_isWord (sPc D vwCl (s_tys cI cB cZ) [.int p1] ([] : va_W) sz) (sQi D vwCl ([] : va_W) ([] : va_W) sz rv) 0 0 (va_A ([] : va_W) sz) := by
  refine s_enter_z (cc := cX8_isWord) (nL := 1) (r := rv) (by decide) rfl (Nat.le_of_ble_eq_true rfl) ?_
  intro p e s m args below meth c A Q C0 hend ls hl hS
  have h := hf
  clear hf
  replace hl : lv_has ls 1 [(0, .int p1)] := hl
  unfold f_X8_isWord at h
  obtain ⟨hx, hb, hml, hown, hts, hK, hA⟩ := id C0
  refine lv_iload_n hx hb dX8_isWord_0 rfl (lv_at hl 0 rfl) ?_
  refine lv_iconst (v := (0 : Int32)) hx hb dX8_isWord_1 (by decide) ?_
  refine lv_bipush (v := (9 : Int32)) hx hb dX8_isWord_2 (by decide) ?_
  obtain ⟨q1, hq1, h⟩ := s_bind h
  refine s_calliS (r := q1) (As := [.int p1, .int (0 : Int32), .int (9 : Int32)]) (rest := []) (wc := ([] : va_W)) (w1 := ([] : va_W)) (ws' := ([] : va_W)) hx hb hml hown hts hK hA hl hS (c_X8_within l D cI cB cZ p1 (0 : Int32) (9 : Int32) _ _ hq1) (va_cwS 3 hts gX8_isWord_X8_within rfl rfl rfl (by decide +kernel) ⟨Nat.le_of_ble_eq_true rfl, Nat.le_of_ble_eq_true rfl⟩) [] rfl rfl rfl rfl rfl rfl (Nat.le_of_ble_eq_true rfl) dX8_isWord_4 (fun H locs hS => ?_)
  obtain ⟨g2, h⟩ := s_guard h
  obtain rfl := Option.some.inj h
  exact hend _ _ _ _ dX8_isWord_7 g2 hS

-- InnTurned.full()I
def wd_X8_full (cI cB cZ : ClassId) (a_this : Nat) (a_house : Nat) (a_spare : Nat) (a_image0 : Nat) (a_image1 : Nat) (a_script : Nat) (a_telling : Nat) (a_lineup : Nat) (a_wits : Nat)  (kept0 : Int32) (kept1 : Int32) (above : Int32) (below : Int32) (bads : Int32) (nos : Int32) (fulls : Int32) : va_W := [(a_this, .inr (6, [.ref a_house, .ref a_spare, .ref a_image0, .ref a_image1, .ref a_script, .ref a_telling, .ref a_lineup, .ref a_wits, .int kept0, .int kept1, .int above, .int below, .int bads, .int nos, .int fulls]))]
abbrev rm_X8_full : Room := { frames := 0, cells := 0, slots := 0, locals := 0 }
set_option maxRecDepth 20000 in
theorem inX8_X8_full : ∀ w ∈ u_ws RX8 TX8 15, w ∈ wsX8_full := by decide +kernel
def f_X8_full   (fulls : Int32) : Option (Int32 × Int32) := some ((-4 : Int32), (fulls + (1 : Int32)))
set_option maxHeartbeats 4000000 in
set_option maxRecDepth 100000 in
theorem c_X8_full (l : Launch) (D : va_G) (cI cB cZ : ClassId) (a_this : Nat) (a_house : Nat) (a_spare : Nat) (a_image0 : Nat) (a_image1 : Nat) (a_script : Nat) (a_telling : Nat) (a_lineup : Nat) (a_wits : Nat) (kept0 : Int32) (kept1 : Int32) (above : Int32) (below : Int32) (bads : Int32) (nos : Int32) (fulls : Int32) (rv : Int32 × Int32) (sz : Nat) (hf : f_X8_full fulls = some rv) : Met l yX8_full wsX8_full rm_X8_full (sPc D vwCl (s_tys cI cB cZ) [.ref a_this] (wd_X8_full cI cB cZ a_this a_house a_spare a_image0 a_image1 a_script a_telling a_lineup a_wits kept0 kept1 above below bads nos fulls) sz) (sQi D vwCl (wd_X8_full cI cB cZ a_this a_house a_spare a_image0 a_image1 a_script a_telling a_lineup a_wits kept0 kept1 above below bads nos fulls) (wd_X8_full cI cB cZ a_this a_house a_spare a_image0 a_image1 a_script a_telling a_lineup a_wits kept0 kept1 above below bads nos rv.2) sz rv.1) 0 0 (va_A (wd_X8_full cI cB cZ a_this a_house a_spare a_image0 a_image1 a_script a_telling a_lineup a_wits kept0 kept1 above below bads nos fulls) sz) := by
  refine s_enter_n (cc := cX8_full) (nL := 1) (r := rv.1) (by decide) rfl (Nat.le_of_ble_eq_true rfl) ?_
  intro p e s m args below meth c A Q C0 hend ls hl hS
  have h := hf
  clear hf
  replace hl : lv_has ls 1 [(0, .ref a_this)] := hl
  unfold f_X8_full at h
  obtain ⟨hx, hb, hml, hown, hts, hK, hA⟩ := id C0
  have inX8 : ∀ w ∈ u_ws RX8 TX8 15, w ∈ wsX8_full := inX8_X8_full
  refine lv_aload_n hx hb dX8_full_0 rfl (lv_at hl 0 rfl) ?_
  refine lv_dup hx hb dX8_full_1 rfl ?_
  refine s_get (C := RX8) (T := TX8) (N := 15) hx hb hts inX8 hown hK hS 0 rfl rfl 14 (by decide) (hts (.fieldLink RX8 290 "InnTurned" "fulls" "I") (List.mem_of_getElem? (i := 1) rfl)) rfl rfl dX8_full_2 ?_
  refine lv_iconst (v := (1 : Int32)) hx hb dX8_full_5 (by decide) ?_
  refine lv_iadd hx hb dX8_full_6 ?_
  refine s_put (ws' := (wd_X8_full cI cB cZ a_this a_house a_spare a_image0 a_image1 a_script a_telling a_lineup a_wits kept0 kept1 above below bads nos (fulls + (1 : Int32)))) (C := RX8) (T := TX8) (N := 15) hx hb hts inX8 tyX8 tyX8_ok nmX8 hown hK hS 0 rfl rfl 14 (by decide) (hts (.fieldLink RX8 290 "InnTurned" "fulls" "I") (List.mem_of_getElem? (i := 1) rfl)) rfl rfl rfl rfl (Nat.le_of_ble_eq_true rfl) rfl dX8_full_7 (fun H locs hS => ?_)
  refine lv_bipush (v := (-4 : Int32)) hx hb dX8_full_10 (by decide) ?_
  obtain rfl := Option.some.inj h
  exact hend _ _ _ _ dX8_full_12 hS

-- InnTurned.one(II)I
def wd_X8_one (cI cB cZ : ClassId) (a_this : Nat) (a_house : Nat) (a_house_wets : Nat) (a_house_guests : Nat) (a_house_guests_cells : Nat) (a_house_sights : Nat) (a_house_remarks : Nat) (a_house_marks : Nat) (a_house_past : Nat) (a_house_past_cells : Nat) (a_spare : Nat) (a_image0 : Nat) (a_image1 : Nat) (a_script : Nat) (a_telling : Nat) (a_lineup : Nat) (a_wits : Nat)  (house_guests_cells : (Nat → Int32)) (house_guests_rows : Int32) (house_past_rows : Int32) (house_host : Int32) (house_rooms : Int32) (house_night : Int32) (house_wheels : Int32) (house_turned : Int32) (kept0 : Int32) (kept1 : Int32) (above : Int32) (below : Int32) (bads : Int32) (nos : Int32) (fulls : Int32) : va_W := [(a_this, .inr (6, [.ref a_house, .ref a_spare, .ref a_image0, .ref a_image1, .ref a_script, .ref a_telling, .ref a_lineup, .ref a_wits, .int kept0, .int kept1, .int above, .int below, .int bads, .int nos, .int fulls])), (a_house, .inr (0, [.ref a_house_wets, .ref a_house_guests, .ref a_house_sights, .ref a_house_remarks, .ref a_house_marks, .ref a_house_past, .int house_host, .int house_rooms, .int house_night, .int house_wheels, .int house_turned])), (a_house_guests, .inr (3, [.int 4, .int 7, .ref a_house_guests_cells, .int house_guests_rows])), (a_house_guests_cells, .inl (cI, 28, .inl house_guests_cells)), (a_house_past, .inr (3, [.int 24, .int 8, .ref a_house_past_cells, .int house_past_rows]))]
abbrev rm_X8_one : Room := { frames := 3, cells := 0, slots := 0, locals := 68 }
set_option maxRecDepth 20000 in
theorem inX1_X8_one : ∀ w ∈ u_ws RX1 TX1 11, w ∈ wsX8_one := by decide +kernel
set_option maxRecDepth 20000 in
theorem inX5_X8_one : ∀ w ∈ u_ws RX5 TX5 4, w ∈ wsX8_one := by decide +kernel
set_option maxRecDepth 20000 in
theorem inX8_X8_one : ∀ w ∈ u_ws RX8 TX8 15, w ∈ wsX8_one := by decide +kernel
def f_X8_one_b14   (house_guests_cells : (Nat → Int32)) (house_guests_rows : Int32) (house_past_rows : Int32) (bads : Int32) (fulls : Int32) : Option (Int32 × (Nat → Int32) × Int32 × Int32 × Int32 × Int32) := ((f_X8_bad bads).bind fun q1 => some (q1.1, house_guests_cells, house_guests_rows, house_past_rows, q1.2, fulls))
set_option maxHeartbeats 4000000 in
set_option maxRecDepth 100000 in
theorem w_X8_one_b14 {p : Program} {l : Launch} {e : Env} {s : State} {m : MethodId} {args : Array Value} {below : List Frame} {meth : Method} {c : Code} {A : Nat → Prop} {Q : State → Prop} {D : va_G} {cI cB cZ : ClassId} {a_this a_house a_house_wets a_house_guests a_house_guests_cells a_house_sights a_house_remarks a_house_marks a_house_past a_house_past_cells a_spare a_image0 a_image1 a_script a_telling a_lineup a_wits : Nat} {house_host : Int32} {house_rooms : Int32} {house_night : Int32} {house_wheels : Int32} {house_turned : Int32} {kept0 : Int32} {kept1 : Int32} {above : Int32} {below : Int32} {nos : Int32} (C0 : Cx p s m args c cX8_one 3 RX8 wsX8_one D (s_tys cI cB cZ) A) {rv : Int32 × (Nat → Int32) × Int32 × Int32 × Int32 × Int32} (hend : ∀ (pc : Nat) (H : Heap) (locs : List Loc) (ls : Array Slot), decode cX8_one pc = .ok (.ireturn, 1) → sS D vwCl A s.heap (wd_X8_one cI cB cZ a_this a_house a_house_wets a_house_guests a_house_guests_cells a_house_sights a_house_remarks a_house_marks a_house_past a_house_past_cells a_spare a_image0 a_image1 a_script a_telling a_lineup a_wits rv.2.1 rv.2.2.1 rv.2.2.2.1 house_host house_rooms house_night house_wheels house_turned kept0 kept1 above below rv.2.2.2.2.1 nos rv.2.2.2.2.2) H locs → W p l e rm_X8_one s m args below meth c H locs 0 0 Q (F0 m pc ls [.int rv.1])) : ∀ (house_guests_cells : (Nat → Int32)) (house_guests_rows : Int32) (house_past_rows : Int32) (bads : Int32) (fulls : Int32) (H : Heap) (locs : List Loc) (ls : Array Slot), f_X8_one_b14  house_guests_cells house_guests_rows house_past_rows bads fulls = some rv → sS D vwCl A s.heap (wd_X8_one cI cB cZ a_this a_house a_house_wets a_house_guests a_house_guests_cells a_house_sights a_house_remarks a_house_marks a_house_past a_house_past_cells a_spare a_image0 a_image1 a_script a_telling a_lineup a_wits house_guests_cells house_guests_rows house_past_rows house_host house_rooms house_night house_wheels house_turned kept0 kept1 above below bads nos fulls) H locs → lv_has ls 3 [(0, .ref a_this)] → W p l e rm_X8_one s m args below meth c H locs 0 0 Q (F0 m 14 ls []) := by
  obtain ⟨hx, hb, hml, hown, hts, hK, hA⟩ := id C0
  have inX1 : ∀ w ∈ u_ws RX1 TX1 11, w ∈ wsX8_one := inX1_X8_one
  have inX5 : ∀ w ∈ u_ws RX5 TX5 4, w ∈ wsX8_one := inX5_X8_one
  have inX8 : ∀ w ∈ u_ws RX8 TX8 15, w ∈ wsX8_one := inX8_X8_one
  intro house_guests_cells house_guests_rows house_past_rows bads fulls H locs ls h hS hl
  unfold f_X8_one_b14 at h
  refine lv_aload_n hx hb dX8_one_14 rfl (lv_at hl 0 rfl) ?_
  obtain ⟨q1, hq1, h⟩ := s_bind h
  refine s_calliV (r := q1.1) (As := []) (rest := []) (wc := (wd_X8_bad cI cB cZ a_this a_house a_spare a_image0 a_image1 a_script a_telling a_lineup a_wits kept0 kept1 above below bads nos fulls)) (w1 := (wd_X8_bad cI cB cZ a_this a_house a_spare a_image0 a_image1 a_script a_telling a_lineup a_wits kept0 kept1 above below q1.2 nos fulls)) (ws' := (wd_X8_one cI cB cZ a_this a_house a_house_wets a_house_guests a_house_guests_cells a_house_sights a_house_remarks a_house_marks a_house_past a_house_past_cells a_spare a_image0 a_image1 a_script a_telling a_lineup a_wits house_guests_cells house_guests_rows house_past_rows house_host house_rooms house_night house_wheels house_turned kept0 kept1 above below q1.2 nos fulls)) hx hb hml hown hts hK hA hl hS (c_X8_bad l D cI cB cZ a_this a_house a_spare a_image0 a_image1 a_script a_telling a_lineup a_wits kept0 kept1 above below bads nos fulls _ _ hq1) (cwV 0 hts gX8_one_X8_bad rfl rfl rfl (by decide +kernel) ⟨Nat.le_of_ble_eq_true rfl, Nat.le_of_ble_eq_true rfl⟩) 0 rfl rfl [0] rfl rfl rfl rfl rfl rfl (Nat.le_of_ble_eq_true rfl) dX8_one_15 (fun H locs hS => ?_)
  obtain rfl := Option.some.inj h
  exact hend _ _ _ _ dX8_one_18 hS
def f_X8_one   (house_guests_cells : (Nat → Int32)) (house_guests_rows : Int32) (house_past_rows : Int32) (bads : Int32) (fulls : Int32) (p1 : Int32) (p2 : Int32) : Option (Int32 × (Nat → Int32) × Int32 × Int32 × Int32 × Int32) := ((f_X8_isKind p1).bind fun q2 => (if q2 = 0 then f_X8_one_b14   house_guests_cells house_guests_rows house_past_rows bads fulls else ((f_X8_isWord p2).bind fun q4 => (if q4 = 0 then f_X8_one_b14   house_guests_cells house_guests_rows house_past_rows bads fulls else ((f_X5_isFull (7 : Int32) house_guests_rows).bind fun q6 => (if q6 = 0 then ((f_X5_empty house_past_rows).bind fun q8 => ((f_X1_welcome house_guests_cells house_guests_rows p1 p2).bind fun q9 => some (q9.1, q9.2.1, q9.2.2, q8, bads, fulls))) else ((f_X8_full fulls).bind fun q10 => some (q10.1, house_guests_cells, house_guests_rows, house_past_rows, bads, q10.2))))))))
set_option maxHeartbeats 4000000 in
set_option maxRecDepth 100000 in
theorem c_X8_one (l : Launch) (D : va_G) (cI cB cZ : ClassId) (a_this : Nat) (a_house : Nat) (a_house_wets : Nat) (a_house_guests : Nat) (a_house_guests_cells : Nat) (a_house_sights : Nat) (a_house_remarks : Nat) (a_house_marks : Nat) (a_house_past : Nat) (a_house_past_cells : Nat) (a_spare : Nat) (a_image0 : Nat) (a_image1 : Nat) (a_script : Nat) (a_telling : Nat) (a_lineup : Nat) (a_wits : Nat) (house_guests_cells : (Nat → Int32)) (house_guests_rows : Int32) (house_past_rows : Int32) (house_host : Int32) (house_rooms : Int32) (house_night : Int32) (house_wheels : Int32) (house_turned : Int32) (kept0 : Int32) (kept1 : Int32) (above : Int32) (below : Int32) (bads : Int32) (nos : Int32) (fulls : Int32) (p1 : Int32) (p2 : Int32) (rv : Int32 × (Nat → Int32) × Int32 × Int32 × Int32 × Int32) (sz : Nat) (hf : f_X8_one house_guests_cells house_guests_rows house_past_rows bads fulls p1 p2 = some rv) : Met l yX8_one wsX8_one rm_X8_one (sPc D vwCl (s_tys cI cB cZ) [.ref a_this, .int p1, .int p2] (wd_X8_one cI cB cZ a_this a_house a_house_wets a_house_guests a_house_guests_cells a_house_sights a_house_remarks a_house_marks a_house_past a_house_past_cells a_spare a_image0 a_image1 a_script a_telling a_lineup a_wits house_guests_cells house_guests_rows house_past_rows house_host house_rooms house_night house_wheels house_turned kept0 kept1 above below bads nos fulls) sz) (sQi D vwCl (wd_X8_one cI cB cZ a_this a_house a_house_wets a_house_guests a_house_guests_cells a_house_sights a_house_remarks a_house_marks a_house_past a_house_past_cells a_spare a_image0 a_image1 a_script a_telling a_lineup a_wits house_guests_cells house_guests_rows house_past_rows house_host house_rooms house_night house_wheels house_turned kept0 kept1 above below bads nos fulls) (wd_X8_one cI cB cZ a_this a_house a_house_wets a_house_guests a_house_guests_cells a_house_sights a_house_remarks a_house_marks a_house_past a_house_past_cells a_spare a_image0 a_image1 a_script a_telling a_lineup a_wits rv.2.1 rv.2.2.1 rv.2.2.2.1 house_host house_rooms house_night house_wheels house_turned kept0 kept1 above below rv.2.2.2.2.1 nos rv.2.2.2.2.2) sz rv.1) 0 0 (va_A (wd_X8_one cI cB cZ a_this a_house a_house_wets a_house_guests a_house_guests_cells a_house_sights a_house_remarks a_house_marks a_house_past a_house_past_cells a_spare a_image0 a_image1 a_script a_telling a_lineup a_wits house_guests_cells house_guests_rows house_past_rows house_host house_rooms house_night house_wheels house_turned kept0 kept1 above below bads nos fulls) sz) := by
  refine s_enter_n (cc := cX8_one) (nL := 3) (r := rv.1) (by decide) rfl (Nat.le_of_ble_eq_true rfl) ?_
  intro p e s m args below meth c A Q C0 hend ls hl hS
  have h := hf
  clear hf
  replace hl : lv_has ls 3 [(0, .ref a_this), (1, .int p1), (2, .int p2)] := hl
  unfold f_X8_one at h
  obtain ⟨hx, hb, hml, hown, hts, hK, hA⟩ := id C0
  have inX1 : ∀ w ∈ u_ws RX1 TX1 11, w ∈ wsX8_one := inX1_X8_one
  have inX5 : ∀ w ∈ u_ws RX5 TX5 4, w ∈ wsX8_one := inX5_X8_one
  have inX8 : ∀ w ∈ u_ws RX8 TX8 15, w ∈ wsX8_one := inX8_X8_one
  refine lv_iload_n hx hb dX8_one_0 rfl (lv_at hl 1 rfl) ?_
  obtain ⟨q2, hq2, h⟩ := s_bind h
  refine s_calliS (r := q2) (As := [.int p1]) (rest := []) (wc := ([] : va_W)) (w1 := ([] : va_W)) (ws' := (wd_X8_one cI cB cZ a_this a_house a_house_wets a_house_guests a_house_guests_cells a_house_sights a_house_remarks a_house_marks a_house_past a_house_past_cells a_spare a_image0 a_image1 a_script a_telling a_lineup a_wits house_guests_cells house_guests_rows house_past_rows house_host house_rooms house_night house_wheels house_turned kept0 kept1 above below bads nos fulls)) hx hb hml hown hts hK hA hl hS (c_X8_isKind l D cI cB cZ p1 _ _ hq2) (va_cwS 1 hts gX8_one_X8_isKind rfl rfl rfl (by decide +kernel) ⟨Nat.le_of_ble_eq_true rfl, Nat.le_of_ble_eq_true rfl⟩) [] rfl rfl rfl rfl rfl rfl (Nat.le_of_ble_eq_true rfl) dX8_one_1 (fun H locs hS => ?_)
  refine lv_if_eq (tgt := 14) hx hb dX8_one_4 (by decide) (fun c3 => ?_) (fun c3 => ?_)
  · replace h := s_yes c3 h
    exact w_X8_one_b14 C0 hend  house_guests_cells house_guests_rows house_past_rows bads fulls _ _ _ h hS (lv_sub hl [0] rfl)
  replace h := s_no c3 h
  refine lv_iload_n hx hb dX8_one_7 rfl (lv_at hl 2 rfl) ?_
  obtain ⟨q4, hq4, h⟩ := s_bind h
  refine s_calliS (r := q4) (As := [.int p2]) (rest := []) (wc := ([] : va_W)) (w1 := ([] : va_W)) (ws' := (wd_X8_one cI cB cZ a_this a_house a_house_wets a_house_guests a_house_guests_cells a_house_sights a_house_remarks a_house_marks a_house_past a_house_past_cells a_spare a_image0 a_image1 a_script a_telling a_lineup a_wits house_guests_cells house_guests_rows house_past_rows house_host house_rooms house_night house_wheels house_turned kept0 kept1 above below bads nos fulls)) hx hb hml hown hts hK hA hl hS (c_X8_isWord l D cI cB cZ p2 _ _ hq4) (va_cwS 1 hts gX8_one_X8_isWord rfl rfl rfl (by decide +kernel) ⟨Nat.le_of_ble_eq_true rfl, Nat.le_of_ble_eq_true rfl⟩) [] rfl rfl rfl rfl rfl rfl (Nat.le_of_ble_eq_true rfl) dX8_one_8 (fun H locs hS => ?_)
  refine lv_if_ne (tgt := 19) hx hb dX8_one_11 (by decide) (fun c5 => ?_) (fun c5 => ?_)
  · replace h := s_no c5 h
    refine lv_aload_n hx hb dX8_one_19 rfl (lv_at hl 0 rfl) ?_
    refine s_get (C := RX8) (T := TX8) (N := 15) hx hb hts inX8 hown hK hS 0 rfl rfl 0 (by decide) (hts (.fieldLink RX8 10 "InnTurned" "house" "LInnTurned$House;") (List.mem_of_getElem? (i := 1) rfl)) rfl rfl dX8_one_20 ?_
    refine s_getN (C := RX1) (T := TX1) (N := 11) hx hb hts inX1 hown hK hS 1 rfl rfl 1 (by decide) 7 rfl rfl rfl dX8_one_23 ?_
    obtain ⟨q6, hq6, h⟩ := s_bind h
    refine s_calliV (r := q6) (As := []) (rest := []) (wc := (wd_X5_isFull cI cB cZ a_house_guests a_house_guests_cells (4 : Int32) (7 : Int32) house_guests_rows)) (w1 := (wd_X5_isFull cI cB cZ a_house_guests a_house_guests_cells (4 : Int32) (7 : Int32) house_guests_rows)) (ws' := (wd_X8_one cI cB cZ a_this a_house a_house_wets a_house_guests a_house_guests_cells a_house_sights a_house_remarks a_house_marks a_house_past a_house_past_cells a_spare a_image0 a_image1 a_script a_telling a_lineup a_wits house_guests_cells house_guests_rows house_past_rows house_host house_rooms house_night house_wheels house_turned kept0 kept1 above below bads nos fulls)) hx hb hml hown hts hK hA hl hS (c_X5_isFull l D cI cB cZ a_house_guests a_house_guests_cells (4 : Int32) (7 : Int32) house_guests_rows _ _ hq6) (cwV 0 hts gX8_one_X5_isFull rfl rfl rfl (by decide +kernel) ⟨Nat.le_of_ble_eq_true rfl, Nat.le_of_ble_eq_true rfl⟩) 2 rfl rfl [2] rfl rfl rfl rfl rfl rfl (Nat.le_of_ble_eq_true rfl) dX8_one_26 (fun H locs hS => ?_)
    refine lv_if_eq (tgt := 37) hx hb dX8_one_29 (by decide) (fun c7 => ?_) (fun c7 => ?_)
    · replace h := s_yes c7 h
      refine lv_aload_n hx hb dX8_one_37 rfl (lv_at hl 0 rfl) ?_
      refine s_get (C := RX8) (T := TX8) (N := 15) hx hb hts inX8 hown hK hS 0 rfl rfl 0 (by decide) (hts (.fieldLink RX8 10 "InnTurned" "house" "LInnTurned$House;") (List.mem_of_getElem? (i := 1) rfl)) rfl rfl dX8_one_38 ?_
      refine s_getN (C := RX1) (T := TX1) (N := 11) hx hb hts inX1 hown hK hS 1 rfl rfl 5 (by decide) 16 rfl rfl rfl dX8_one_41 ?_
      obtain ⟨q8, hq8, h⟩ := s_bind h
      refine s_callvV (As := []) (rest := []) (wc := (wd_X5_empty cI cB cZ a_house_past a_house_past_cells (24 : Int32) (8 : Int32) house_past_rows)) (w1 := (wd_X5_empty cI cB cZ a_house_past a_house_past_cells (24 : Int32) (8 : Int32) q8)) (ws' := (wd_X8_one cI cB cZ a_this a_house a_house_wets a_house_guests a_house_guests_cells a_house_sights a_house_remarks a_house_marks a_house_past a_house_past_cells a_spare a_image0 a_image1 a_script a_telling a_lineup a_wits house_guests_cells house_guests_rows q8 house_host house_rooms house_night house_wheels house_turned kept0 kept1 above below bads nos fulls)) hx hb hml hown hts hK hA hl hS (c_X5_empty l D cI cB cZ a_house_past a_house_past_cells (24 : Int32) (8 : Int32) house_past_rows _ _ hq8) (cwV 0 hts gX8_one_X5_empty rfl rfl rfl (by decide +kernel) ⟨Nat.le_of_ble_eq_true rfl, Nat.le_of_ble_eq_true rfl⟩) 4 rfl rfl [4] rfl rfl rfl rfl rfl rfl (Nat.le_of_ble_eq_true rfl) dX8_one_44 (fun H locs hS => ?_)
      refine lv_aload_n hx hb dX8_one_47 rfl (lv_at hl 0 rfl) ?_
      refine s_get (C := RX8) (T := TX8) (N := 15) hx hb hts inX8 hown hK hS 0 rfl rfl 0 (by decide) (hts (.fieldLink RX8 10 "InnTurned" "house" "LInnTurned$House;") (List.mem_of_getElem? (i := 1) rfl)) rfl rfl dX8_one_48 ?_
      refine lv_iload_n hx hb dX8_one_51 rfl (lv_at hl 1 rfl) ?_
      refine lv_iload_n hx hb dX8_one_52 rfl (lv_at hl 2 rfl) ?_
      obtain ⟨q9, hq9, h⟩ := s_bind h
      refine s_calliV (r := q9.1) (As := [.int p1, .int p2]) (rest := []) (wc := (wd_X1_welcome cI cB cZ a_house a_house_wets a_house_guests a_house_guests_cells a_house_sights a_house_remarks a_house_marks a_house_past house_guests_cells house_guests_rows house_host house_rooms house_night house_wheels house_turned)) (w1 := (wd_X1_welcome cI cB cZ a_house a_house_wets a_house_guests a_house_guests_cells a_house_sights a_house_remarks a_house_marks a_house_past q9.2.1 q9.2.2 house_host house_rooms house_night house_wheels house_turned)) (ws' := (wd_X8_one cI cB cZ a_this a_house a_house_wets a_house_guests a_house_guests_cells a_house_sights a_house_remarks a_house_marks a_house_past a_house_past_cells a_spare a_image0 a_image1 a_script a_telling a_lineup a_wits q9.2.1 q9.2.2 q8 house_host house_rooms house_night house_wheels house_turned kept0 kept1 above below bads nos fulls)) hx hb hml hown hts hK hA hl hS (c_X1_welcome l D cI cB cZ a_house a_house_wets a_house_guests a_house_guests_cells a_house_sights a_house_remarks a_house_marks a_house_past house_guests_cells house_guests_rows house_host house_rooms house_night house_wheels house_turned p1 p2 _ _ hq9) (cwV 2 hts gX8_one_X1_welcome rfl rfl rfl (by decide +kernel) ⟨Nat.le_of_ble_eq_true rfl, Nat.le_of_ble_eq_true rfl⟩) 1 rfl rfl [1, 2, 3] rfl rfl rfl rfl rfl rfl (Nat.le_of_ble_eq_true rfl) dX8_one_53 (fun H locs hS => ?_)
      obtain rfl := Option.some.inj h
      exact hend _ _ _ _ dX8_one_56 hS
    replace h := s_no c7 h
    refine lv_aload_n hx hb dX8_one_32 rfl (lv_at hl 0 rfl) ?_
    obtain ⟨q10, hq10, h⟩ := s_bind h
    refine s_calliV (r := q10.1) (As := []) (rest := []) (wc := (wd_X8_full cI cB cZ a_this a_house a_spare a_image0 a_image1 a_script a_telling a_lineup a_wits kept0 kept1 above below bads nos fulls)) (w1 := (wd_X8_full cI cB cZ a_this a_house a_spare a_image0 a_image1 a_script a_telling a_lineup a_wits kept0 kept1 above below bads nos q10.2)) (ws' := (wd_X8_one cI cB cZ a_this a_house a_house_wets a_house_guests a_house_guests_cells a_house_sights a_house_remarks a_house_marks a_house_past a_house_past_cells a_spare a_image0 a_image1 a_script a_telling a_lineup a_wits house_guests_cells house_guests_rows house_past_rows house_host house_rooms house_night house_wheels house_turned kept0 kept1 above below bads nos q10.2)) hx hb hml hown hts hK hA hl hS (c_X8_full l D cI cB cZ a_this a_house a_spare a_image0 a_image1 a_script a_telling a_lineup a_wits kept0 kept1 above below bads nos fulls _ _ hq10) (cwV 0 hts gX8_one_X8_full rfl rfl rfl (by decide +kernel) ⟨Nat.le_of_ble_eq_true rfl, Nat.le_of_ble_eq_true rfl⟩) 0 rfl rfl [0] rfl rfl rfl rfl rfl rfl (Nat.le_of_ble_eq_true rfl) dX8_one_33 (fun H locs hS => ?_)
    obtain rfl := Option.some.inj h
    exact hend _ _ _ _ dX8_one_36 hS
  replace h := s_yes c5 h
  exact w_X8_one_b14 C0 hend  house_guests_cells house_guests_rows house_past_rows bads fulls _ _ _ h hS (lv_sub hl [0] rfl)

-- InnTurned.type(I)I
def wd_X8_type (cI cB cZ : ClassId) (a_this : Nat) (a_house : Nat) (a_spare : Nat) (a_image0 : Nat) (a_image1 : Nat) (a_script : Nat) (a_script_bytes : Nat) (a_telling : Nat) (a_lineup : Nat) (a_wits : Nat)  (script_bytes : (Nat → Int32)) (script_size : Int32) (script_next : Int32) (script_start : Int32) (script_token : Int32) (script_number : Int32) (kept0 : Int32) (kept1 : Int32) (above : Int32) (below : Int32) (bads : Int32) (nos : Int32) (fulls : Int32) : va_W := [(a_this, .inr (6, [.ref a_house, .ref a_spare, .ref a_image0, .ref a_image1, .ref a_script, .ref a_telling, .ref a_lineup, .ref a_wits, .int kept0, .int kept1, .int above, .int below, .int bads, .int nos, .int fulls])), (a_script, .inr (2, [.ref a_script_bytes, .int script_size, .int script_next, .int script_start, .int script_token, .int script_number])), (a_script_bytes, .inl (cB, 150, .inl script_bytes))]
abbrev rm_X8_type : Room := { frames := 1, cells := 0, slots := 0, locals := 22 }
set_option maxRecDepth 20000 in
theorem inX4_X8_type : ∀ w ∈ u_ws RX4 TX4 6, w ∈ wsX8_type := by decide +kernel
set_option maxRecDepth 20000 in
theorem inX8_X8_type : ∀ w ∈ u_ws RX8 TX8 15, w ∈ wsX8_type := by decide +kernel
def f_X8_type   (script_bytes : (Nat → Int32)) (script_size : Int32) (bads : Int32) (fulls : Int32) (p1 : Int32) : Option (Int32 × (Nat → Int32) × Int32 × Int32 × Int32) := ((f_X8_within p1 (0 : Int32) (127 : Int32)).bind fun q1 => (if q1 = 0 then ((f_X8_bad bads).bind fun q7 => some (q7.1, script_bytes, script_size, q7.2, fulls)) else ((f_X4_isFull script_size).bind fun q3 => (if q3 = 0 then ((f_X4_append script_bytes script_size p1).bind fun q5 => some (q5.2, q5.1, q5.2, bads, fulls)) else ((f_X8_full fulls).bind fun q6 => some (q6.1, script_bytes, script_size, bads, q6.2))))))
set_option maxHeartbeats 4000000 in
set_option maxRecDepth 100000 in
theorem c_X8_type (l : Launch) (D : va_G) (cI cB cZ : ClassId) (a_this : Nat) (a_house : Nat) (a_spare : Nat) (a_image0 : Nat) (a_image1 : Nat) (a_script : Nat) (a_script_bytes : Nat) (a_telling : Nat) (a_lineup : Nat) (a_wits : Nat) (script_bytes : (Nat → Int32)) (script_size : Int32) (script_next : Int32) (script_start : Int32) (script_token : Int32) (script_number : Int32) (kept0 : Int32) (kept1 : Int32) (above : Int32) (below : Int32) (bads : Int32) (nos : Int32) (fulls : Int32) (p1 : Int32) (rv : Int32 × (Nat → Int32) × Int32 × Int32 × Int32) (sz : Nat) (hf : f_X8_type script_bytes script_size bads fulls p1 = some rv) : Met l yX8_type wsX8_type rm_X8_type (sPc D vwCl (s_tys cI cB cZ) [.ref a_this, .int p1] (wd_X8_type cI cB cZ a_this a_house a_spare a_image0 a_image1 a_script a_script_bytes a_telling a_lineup a_wits script_bytes script_size script_next script_start script_token script_number kept0 kept1 above below bads nos fulls) sz) (sQi D vwCl (wd_X8_type cI cB cZ a_this a_house a_spare a_image0 a_image1 a_script a_script_bytes a_telling a_lineup a_wits script_bytes script_size script_next script_start script_token script_number kept0 kept1 above below bads nos fulls) (wd_X8_type cI cB cZ a_this a_house a_spare a_image0 a_image1 a_script a_script_bytes a_telling a_lineup a_wits rv.2.1 rv.2.2.1 script_next script_start script_token script_number kept0 kept1 above below rv.2.2.2.1 nos rv.2.2.2.2) sz rv.1) 0 0 (va_A (wd_X8_type cI cB cZ a_this a_house a_spare a_image0 a_image1 a_script a_script_bytes a_telling a_lineup a_wits script_bytes script_size script_next script_start script_token script_number kept0 kept1 above below bads nos fulls) sz) := by
  refine s_enter_n (cc := cX8_type) (nL := 2) (r := rv.1) (by decide) rfl (Nat.le_of_ble_eq_true rfl) ?_
  intro p e s m args below meth c A Q C0 hend ls hl hS
  have h := hf
  clear hf
  replace hl : lv_has ls 2 [(0, .ref a_this), (1, .int p1)] := hl
  unfold f_X8_type at h
  obtain ⟨hx, hb, hml, hown, hts, hK, hA⟩ := id C0
  have inX4 : ∀ w ∈ u_ws RX4 TX4 6, w ∈ wsX8_type := inX4_X8_type
  have inX8 : ∀ w ∈ u_ws RX8 TX8 15, w ∈ wsX8_type := inX8_X8_type
  refine lv_iload_n hx hb dX8_type_0 rfl (lv_at hl 1 rfl) ?_
  refine lv_iconst (v := (0 : Int32)) hx hb dX8_type_1 (by decide) ?_
  refine lv_bipush (v := (127 : Int32)) hx hb dX8_type_2 (by decide) ?_
  obtain ⟨q1, hq1, h⟩ := s_bind h
  refine s_calliS (r := q1) (As := [.int p1, .int (0 : Int32), .int (127 : Int32)]) (rest := []) (wc := ([] : va_W)) (w1 := ([] : va_W)) (ws' := (wd_X8_type cI cB cZ a_this a_house a_spare a_image0 a_image1 a_script a_script_bytes a_telling a_lineup a_wits script_bytes script_size script_next script_start script_token script_number kept0 kept1 above below bads nos fulls)) hx hb hml hown hts hK hA hl hS (c_X8_within l D cI cB cZ p1 (0 : Int32) (127 : Int32) _ _ hq1) (va_cwS 3 hts gX8_type_X8_within rfl rfl rfl (by decide +kernel) ⟨Nat.le_of_ble_eq_true rfl, Nat.le_of_ble_eq_true rfl⟩) [] rfl rfl rfl rfl rfl rfl (Nat.le_of_ble_eq_true rfl) dX8_type_4 (fun H locs hS => ?_)
  refine lv_if_ne (tgt := 15) hx hb dX8_type_7 (by decide) (fun c2 => ?_) (fun c2 => ?_)
  · replace h := s_no c2 h
    refine lv_aload_n hx hb dX8_type_15 rfl (lv_at hl 0 rfl) ?_
    refine s_get (C := RX8) (T := TX8) (N := 15) hx hb hts inX8 hown hK hS 0 rfl rfl 4 (by decide) (hts (.fieldLink RX8 28 "InnTurned" "script" "LInnTurned$Script;") (List.mem_of_getElem? (i := 1) rfl)) rfl rfl dX8_type_16 ?_
    obtain ⟨q3, hq3, h⟩ := s_bind h
    refine s_calliV (r := q3) (As := []) (rest := []) (wc := (wd_X4_isFull cI cB cZ a_script a_script_bytes script_size script_next script_start script_token script_number)) (w1 := (wd_X4_isFull cI cB cZ a_script a_script_bytes script_size script_next script_start script_token script_number)) (ws' := (wd_X8_type cI cB cZ a_this a_house a_spare a_image0 a_image1 a_script a_script_bytes a_telling a_lineup a_wits script_bytes script_size script_next script_start script_token script_number kept0 kept1 above below bads nos fulls)) hx hb hml hown hts hK hA hl hS (c_X4_isFull l D cI cB cZ a_script a_script_bytes script_size script_next script_start script_token script_number _ _ hq3) (cwV 0 hts gX8_type_X4_isFull rfl rfl rfl (by decide +kernel) ⟨Nat.le_of_ble_eq_true rfl, Nat.le_of_ble_eq_true rfl⟩) 1 rfl rfl [1] rfl rfl rfl rfl rfl rfl (Nat.le_of_ble_eq_true rfl) dX8_type_19 (fun H locs hS => ?_)
    refine lv_if_eq (tgt := 30) hx hb dX8_type_22 (by decide) (fun c4 => ?_) (fun c4 => ?_)
    · replace h := s_yes c4 h
      refine lv_aload_n hx hb dX8_type_30 rfl (lv_at hl 0 rfl) ?_
      refine s_get (C := RX8) (T := TX8) (N := 15) hx hb hts inX8 hown hK hS 0 rfl rfl 4 (by decide) (hts (.fieldLink RX8 28 "InnTurned" "script" "LInnTurned$Script;") (List.mem_of_getElem? (i := 1) rfl)) rfl rfl dX8_type_31 ?_
      refine lv_iload_n hx hb dX8_type_34 rfl (lv_at hl 1 rfl) ?_
      obtain ⟨q5, hq5, h⟩ := s_bind h
      refine s_callvV (As := [.int p1]) (rest := []) (wc := (wd_X4_append cI cB cZ a_script a_script_bytes script_bytes script_size script_next script_start script_token script_number)) (w1 := (wd_X4_append cI cB cZ a_script a_script_bytes q5.1 q5.2 script_next script_start script_token script_number)) (ws' := (wd_X8_type cI cB cZ a_this a_house a_spare a_image0 a_image1 a_script a_script_bytes a_telling a_lineup a_wits q5.1 q5.2 script_next script_start script_token script_number kept0 kept1 above below bads nos fulls)) hx hb hml hown hts hK hA hl hS (c_X4_append l D cI cB cZ a_script a_script_bytes script_bytes script_size script_next script_start script_token script_number p1 _ _ hq5) (cwV 1 hts gX8_type_X4_append rfl rfl rfl (by decide +kernel) ⟨Nat.le_of_ble_eq_true rfl, Nat.le_of_ble_eq_true rfl⟩) 1 rfl rfl [1, 2] rfl rfl rfl rfl rfl rfl (Nat.le_of_ble_eq_true rfl) dX8_type_35 (fun H locs hS => ?_)
      refine lv_aload_n hx hb dX8_type_38 rfl (lv_at hl 0 rfl) ?_
      refine s_get (C := RX8) (T := TX8) (N := 15) hx hb hts inX8 hown hK hS 0 rfl rfl 4 (by decide) (hts (.fieldLink RX8 28 "InnTurned" "script" "LInnTurned$Script;") (List.mem_of_getElem? (i := 1) rfl)) rfl rfl dX8_type_39 ?_
      refine s_getN (C := RX4) (T := TX4) (N := 6) hx hb hts inX4 hown hK hS 1 rfl rfl 1 (by decide) 25 rfl rfl rfl dX8_type_42 ?_
      obtain rfl := Option.some.inj h
      exact hend _ _ _ _ dX8_type_45 hS
    replace h := s_no c4 h
    refine lv_aload_n hx hb dX8_type_25 rfl (lv_at hl 0 rfl) ?_
    obtain ⟨q6, hq6, h⟩ := s_bind h
    refine s_calliV (r := q6.1) (As := []) (rest := []) (wc := (wd_X8_full cI cB cZ a_this a_house a_spare a_image0 a_image1 a_script a_telling a_lineup a_wits kept0 kept1 above below bads nos fulls)) (w1 := (wd_X8_full cI cB cZ a_this a_house a_spare a_image0 a_image1 a_script a_telling a_lineup a_wits kept0 kept1 above below bads nos q6.2)) (ws' := (wd_X8_type cI cB cZ a_this a_house a_spare a_image0 a_image1 a_script a_script_bytes a_telling a_lineup a_wits script_bytes script_size script_next script_start script_token script_number kept0 kept1 above below bads nos q6.2)) hx hb hml hown hts hK hA hl hS (c_X8_full l D cI cB cZ a_this a_house a_spare a_image0 a_image1 a_script a_telling a_lineup a_wits kept0 kept1 above below bads nos fulls _ _ hq6) (cwV 0 hts gX8_type_X8_full rfl rfl rfl (by decide +kernel) ⟨Nat.le_of_ble_eq_true rfl, Nat.le_of_ble_eq_true rfl⟩) 0 rfl rfl [0] rfl rfl rfl rfl rfl rfl (Nat.le_of_ble_eq_true rfl) dX8_type_26 (fun H locs hS => ?_)
    obtain rfl := Option.some.inj h
    exact hend _ _ _ _ dX8_type_29 hS
  replace h := s_yes c2 h
  refine lv_aload_n hx hb dX8_type_10 rfl (lv_at hl 0 rfl) ?_
  obtain ⟨q7, hq7, h⟩ := s_bind h
  refine s_calliV (r := q7.1) (As := []) (rest := []) (wc := (wd_X8_bad cI cB cZ a_this a_house a_spare a_image0 a_image1 a_script a_telling a_lineup a_wits kept0 kept1 above below bads nos fulls)) (w1 := (wd_X8_bad cI cB cZ a_this a_house a_spare a_image0 a_image1 a_script a_telling a_lineup a_wits kept0 kept1 above below q7.2 nos fulls)) (ws' := (wd_X8_type cI cB cZ a_this a_house a_spare a_image0 a_image1 a_script a_script_bytes a_telling a_lineup a_wits script_bytes script_size script_next script_start script_token script_number kept0 kept1 above below q7.2 nos fulls)) hx hb hml hown hts hK hA hl hS (c_X8_bad l D cI cB cZ a_this a_house a_spare a_image0 a_image1 a_script a_telling a_lineup a_wits kept0 kept1 above below bads nos fulls _ _ hq7) (cwV 0 hts gX8_type_X8_bad rfl rfl rfl (by decide +kernel) ⟨Nat.le_of_ble_eq_true rfl, Nat.le_of_ble_eq_true rfl⟩) 0 rfl rfl [0] rfl rfl rfl rfl rfl rfl (Nat.le_of_ble_eq_true rfl) dX8_type_11 (fun H locs hS => ?_)
  obtain rfl := Option.some.inj h
  exact hend _ _ _ _ dX8_type_14 hS

-- InnTurned.clear()I
def wd_X8_clear (cI cB cZ : ClassId) (a_this : Nat) (a_house : Nat) (a_spare : Nat) (a_image0 : Nat) (a_image1 : Nat) (a_script : Nat) (a_script_bytes : Nat) (a_telling : Nat) (a_lineup : Nat) (a_wits : Nat)  (script_size : Int32) (script_next : Int32) (script_start : Int32) (script_token : Int32) (script_number : Int32) (kept0 : Int32) (kept1 : Int32) (above : Int32) (below : Int32) (bads : Int32) (nos : Int32) (fulls : Int32) : va_W := [(a_this, .inr (6, [.ref a_house, .ref a_spare, .ref a_image0, .ref a_image1, .ref a_script, .ref a_telling, .ref a_lineup, .ref a_wits, .int kept0, .int kept1, .int above, .int below, .int bads, .int nos, .int fulls])), (a_script, .inr (2, [.ref a_script_bytes, .int script_size, .int script_next, .int script_start, .int script_token, .int script_number]))]
abbrev rm_X8_clear : Room := { frames := 0, cells := 0, slots := 0, locals := 0 }
set_option maxRecDepth 20000 in
theorem inX4_X8_clear : ∀ w ∈ u_ws RX4 TX4 6, w ∈ wsX8_clear := by decide +kernel
set_option maxRecDepth 20000 in
theorem inX8_X8_clear : ∀ w ∈ u_ws RX8 TX8 15, w ∈ wsX8_clear := by decide +kernel
def f_X8_clear   (script_size : Int32) : Option (Int32 × Int32) := some (script_size, (0 : Int32))
set_option maxHeartbeats 4000000 in
set_option maxRecDepth 100000 in
theorem c_X8_clear (l : Launch) (D : va_G) (cI cB cZ : ClassId) (a_this : Nat) (a_house : Nat) (a_spare : Nat) (a_image0 : Nat) (a_image1 : Nat) (a_script : Nat) (a_script_bytes : Nat) (a_telling : Nat) (a_lineup : Nat) (a_wits : Nat) (script_size : Int32) (script_next : Int32) (script_start : Int32) (script_token : Int32) (script_number : Int32) (kept0 : Int32) (kept1 : Int32) (above : Int32) (below : Int32) (bads : Int32) (nos : Int32) (fulls : Int32) (rv : Int32 × Int32) (sz : Nat) (hf : f_X8_clear script_size = some rv) : Met l yX8_clear wsX8_clear rm_X8_clear (sPc D vwCl (s_tys cI cB cZ) [.ref a_this] (wd_X8_clear cI cB cZ a_this a_house a_spare a_image0 a_image1 a_script a_script_bytes a_telling a_lineup a_wits script_size script_next script_start script_token script_number kept0 kept1 above below bads nos fulls) sz) (sQi D vwCl (wd_X8_clear cI cB cZ a_this a_house a_spare a_image0 a_image1 a_script a_script_bytes a_telling a_lineup a_wits script_size script_next script_start script_token script_number kept0 kept1 above below bads nos fulls) (wd_X8_clear cI cB cZ a_this a_house a_spare a_image0 a_image1 a_script a_script_bytes a_telling a_lineup a_wits rv.2 script_next script_start script_token script_number kept0 kept1 above below bads nos fulls) sz rv.1) 0 0 (va_A (wd_X8_clear cI cB cZ a_this a_house a_spare a_image0 a_image1 a_script a_script_bytes a_telling a_lineup a_wits script_size script_next script_start script_token script_number kept0 kept1 above below bads nos fulls) sz) := by
  refine s_enter_n (cc := cX8_clear) (nL := 2) (r := rv.1) (by decide) rfl (Nat.le_of_ble_eq_true rfl) ?_
  intro p e s m args below meth c A Q C0 hend ls hl hS
  have h := hf
  clear hf
  replace hl : lv_has ls 2 [(0, .ref a_this)] := hl
  unfold f_X8_clear at h
  obtain ⟨hx, hb, hml, hown, hts, hK, hA⟩ := id C0
  have inX4 : ∀ w ∈ u_ws RX4 TX4 6, w ∈ wsX8_clear := inX4_X8_clear
  have inX8 : ∀ w ∈ u_ws RX8 TX8 15, w ∈ wsX8_clear := inX8_X8_clear
  refine lv_aload_n hx hb dX8_clear_0 rfl (lv_at hl 0 rfl) ?_
  refine s_get (C := RX8) (T := TX8) (N := 15) hx hb hts inX8 hown hK hS 0 rfl rfl 4 (by decide) (hts (.fieldLink RX8 28 "InnTurned" "script" "LInnTurned$Script;") (List.mem_of_getElem? (i := 1) rfl)) rfl rfl dX8_clear_1 ?_
  refine s_getN (C := RX4) (T := TX4) (N := 6) hx hb hts inX4 hown hK hS 1 rfl rfl 1 (by decide) 25 rfl rfl rfl dX8_clear_4 ?_
  refine lv_istore_n (lv' := [(1, .int script_size), (0, .ref a_this)]) hx hb dX8_clear_7 rfl hl (by decide) rfl (fun ls hl => ?_)
  refine lv_aload_n hx hb dX8_clear_8 rfl (lv_at hl 1 rfl) ?_
  refine s_get (C := RX8) (T := TX8) (N := 15) hx hb hts inX8 hown hK hS 0 rfl rfl 4 (by decide) (hts (.fieldLink RX8 28 "InnTurned" "script" "LInnTurned$Script;") (List.mem_of_getElem? (i := 1) rfl)) rfl rfl dX8_clear_9 ?_
  refine lv_iconst (v := (0 : Int32)) hx hb dX8_clear_12 (by decide) ?_
  refine s_putN (ws' := (wd_X8_clear cI cB cZ a_this a_house a_spare a_image0 a_image1 a_script a_script_bytes a_telling a_lineup a_wits (0 : Int32) script_next script_start script_token script_number kept0 kept1 above below bads nos fulls)) (C := RX4) (T := TX4) (N := 6) hx hb hts inX4 tyX4 tyX4_ok nmX4 hown hK hS 1 rfl rfl 1 (by decide) 25 rfl rfl rfl rfl rfl (Nat.le_of_ble_eq_true rfl) rfl dX8_clear_13 (fun H locs hS => ?_)
  refine lv_iload_n hx hb dX8_clear_16 rfl (lv_at hl 0 rfl) ?_
  obtain rfl := Option.some.inj h
  exact hend _ _ _ _ dX8_clear_17 hS

-- InnTurned.no()I
def wd_X8_no (cI cB cZ : ClassId) (a_this : Nat) (a_house : Nat) (a_spare : Nat) (a_image0 : Nat) (a_image1 : Nat) (a_script : Nat) (a_telling : Nat) (a_lineup : Nat) (a_wits : Nat)  (kept0 : Int32) (kept1 : Int32) (above : Int32) (below : Int32) (bads : Int32) (nos : Int32) (fulls : Int32) : va_W := [(a_this, .inr (6, [.ref a_house, .ref a_spare, .ref a_image0, .ref a_image1, .ref a_script, .ref a_telling, .ref a_lineup, .ref a_wits, .int kept0, .int kept1, .int above, .int below, .int bads, .int nos, .int fulls]))]
abbrev rm_X8_no : Room := { frames := 0, cells := 0, slots := 0, locals := 0 }
set_option maxRecDepth 20000 in
theorem inX8_X8_no : ∀ w ∈ u_ws RX8 TX8 15, w ∈ wsX8_no := by decide +kernel
def f_X8_no   (nos : Int32) : Option (Int32 × Int32) := some ((-3 : Int32), (nos + (1 : Int32)))
set_option maxHeartbeats 4000000 in
set_option maxRecDepth 100000 in
theorem c_X8_no (l : Launch) (D : va_G) (cI cB cZ : ClassId) (a_this : Nat) (a_house : Nat) (a_spare : Nat) (a_image0 : Nat) (a_image1 : Nat) (a_script : Nat) (a_telling : Nat) (a_lineup : Nat) (a_wits : Nat) (kept0 : Int32) (kept1 : Int32) (above : Int32) (below : Int32) (bads : Int32) (nos : Int32) (fulls : Int32) (rv : Int32 × Int32) (sz : Nat) (hf : f_X8_no nos = some rv) : Met l yX8_no wsX8_no rm_X8_no (sPc D vwCl (s_tys cI cB cZ) [.ref a_this] (wd_X8_no cI cB cZ a_this a_house a_spare a_image0 a_image1 a_script a_telling a_lineup a_wits kept0 kept1 above below bads nos fulls) sz) (sQi D vwCl (wd_X8_no cI cB cZ a_this a_house a_spare a_image0 a_image1 a_script a_telling a_lineup a_wits kept0 kept1 above below bads nos fulls) (wd_X8_no cI cB cZ a_this a_house a_spare a_image0 a_image1 a_script a_telling a_lineup a_wits kept0 kept1 above below bads rv.2 fulls) sz rv.1) 0 0 (va_A (wd_X8_no cI cB cZ a_this a_house a_spare a_image0 a_image1 a_script a_telling a_lineup a_wits kept0 kept1 above below bads nos fulls) sz) := by
  refine s_enter_n (cc := cX8_no) (nL := 1) (r := rv.1) (by decide) rfl (Nat.le_of_ble_eq_true rfl) ?_
  intro p e s m args below meth c A Q C0 hend ls hl hS
  have h := hf
  clear hf
  replace hl : lv_has ls 1 [(0, .ref a_this)] := hl
  unfold f_X8_no at h
  obtain ⟨hx, hb, hml, hown, hts, hK, hA⟩ := id C0
  have inX8 : ∀ w ∈ u_ws RX8 TX8 15, w ∈ wsX8_no := inX8_X8_no
  refine lv_aload_n hx hb dX8_no_0 rfl (lv_at hl 0 rfl) ?_
  refine lv_dup hx hb dX8_no_1 rfl ?_
  refine s_get (C := RX8) (T := TX8) (N := 15) hx hb hts inX8 hown hK hS 0 rfl rfl 13 (by decide) (hts (.fieldLink RX8 287 "InnTurned" "nos" "I") (List.mem_of_getElem? (i := 1) rfl)) rfl rfl dX8_no_2 ?_
  refine lv_iconst (v := (1 : Int32)) hx hb dX8_no_5 (by decide) ?_
  refine lv_iadd hx hb dX8_no_6 ?_
  refine s_put (ws' := (wd_X8_no cI cB cZ a_this a_house a_spare a_image0 a_image1 a_script a_telling a_lineup a_wits kept0 kept1 above below bads (nos + (1 : Int32)) fulls)) (C := RX8) (T := TX8) (N := 15) hx hb hts inX8 tyX8 tyX8_ok nmX8 hown hK hS 0 rfl rfl 13 (by decide) (hts (.fieldLink RX8 287 "InnTurned" "nos" "I") (List.mem_of_getElem? (i := 1) rfl)) rfl rfl rfl rfl (Nat.le_of_ble_eq_true rfl) rfl dX8_no_7 (fun H locs hS => ?_)
  refine lv_bipush (v := (-3 : Int32)) hx hb dX8_no_10 (by decide) ?_
  obtain rfl := Option.some.inj h
  exact hend _ _ _ _ dX8_no_12 hS

-- InnTurned.comes(I)I
def wd_X8_comes (cI cB cZ : ClassId) (a_this : Nat) (a_house : Nat) (a_house_wets : Nat) (a_house_guests : Nat) (a_house_guests_cells : Nat) (a_house_sights : Nat) (a_house_remarks : Nat) (a_house_marks : Nat) (a_house_past : Nat) (a_house_past_cells : Nat) (a_spare : Nat) (a_image0 : Nat) (a_image1 : Nat) (a_script : Nat) (a_telling : Nat) (a_lineup : Nat) (a_wits : Nat)  (house_wets : (Nat → Int32)) (house_guests_cells : (Nat → Int32)) (house_guests_rows : Int32) (house_past_cells : (Nat → Int32)) (house_past_rows : Int32) (house_host : Int32) (house_rooms : Int32) (house_night : Int32) (house_wheels : Int32) (house_turned : Int32) (kept0 : Int32) (kept1 : Int32) (above : Int32) (below : Int32) (bads : Int32) (nos : Int32) (fulls : Int32) : va_W := [(a_this, .inr (6, [.ref a_house, .ref a_spare, .ref a_image0, .ref a_image1, .ref a_script, .ref a_telling, .ref a_lineup, .ref a_wits, .int kept0, .int kept1, .int above, .int below, .int bads, .int nos, .int fulls])), (a_house, .inr (0, [.ref a_house_wets, .ref a_house_guests, .ref a_house_sights, .ref a_house_remarks, .ref a_house_marks, .ref a_house_past, .int house_host, .int house_rooms, .int house_night, .int house_wheels, .int house_turned])), (a_house_wets, .inl (cI, 6, .inl house_wets)), (a_house_guests, .inr (3, [.int 4, .int 7, .ref a_house_guests_cells, .int house_guests_rows])), (a_house_guests_cells, .inl (cI, 28, .inl house_guests_cells)), (a_house_past, .inr (3, [.int 24, .int 8, .ref a_house_past_cells, .int house_past_rows])), (a_house_past_cells, .inl (cI, 192, .inl house_past_cells))]
abbrev rm_X8_comes : Room := { frames := 5, cells := 0, slots := 0, locals := 109 }
set_option maxRecDepth 20000 in
theorem inX1_X8_comes : ∀ w ∈ u_ws RX1 TX1 11, w ∈ wsX8_comes := by decide +kernel
set_option maxRecDepth 20000 in
theorem inX5_X8_comes : ∀ w ∈ u_ws RX5 TX5 4, w ∈ wsX8_comes := by decide +kernel
set_option maxRecDepth 20000 in
theorem inX8_X8_comes : ∀ w ∈ u_ws RX8 TX8 15, w ∈ wsX8_comes := by decide +kernel
def f_X8_comes  (house_wets : (Nat → Int32)) (house_guests_rows : Int32) (house_host : Int32) (house_rooms : Int32) (house_night : Int32) (house_guests_cells : (Nat → Int32)) (house_past_cells : (Nat → Int32)) (house_past_rows : Int32) (house_wheels : Int32) (house_turned : Int32) (bads : Int32) (nos : Int32) (p1 : Int32) : Option (Int32 × (Nat → Int32) × (Nat → Int32) × Int32 × Int32 × Int32 × Int32 × Int32) := ((f_X1_isThere house_guests_rows p1).bind fun q1 => (if q1 = 0 then ((f_X8_bad bads).bind fun q9 => some (q9.1, house_guests_cells, house_past_cells, house_past_rows, house_wheels, house_turned, q9.2, nos)) else ((f_X1_isIn house_guests_cells house_guests_rows p1).bind fun q3 => (if q3 = 0 then ((f_X1_keep house_guests_cells house_guests_rows house_night house_wheels house_turned house_past_cells house_past_rows).bind fun q5 => ((f_X1_arrive house_wets house_guests_rows house_host house_rooms house_night house_guests_cells house_wheels house_turned p1).bind fun q6 => (if q6.1 = 0 then some ((0 : Int32), q6.2.1, q5.1, q5.2, q6.2.2.1, q6.2.2.2, bads, nos) else some ((1 : Int32), q6.2.1, q5.1, q5.2, q6.2.2.1, q6.2.2.2, bads, nos)))) else ((f_X8_no nos).bind fun q8 => some (q8.1, house_guests_cells, house_past_cells, house_past_rows, house_wheels, house_turned, bads, q8.2))))))
set_option maxHeartbeats 4000000 in
set_option maxRecDepth 100000 in
theorem c_X8_comes (l : Launch) (D : va_G) (cI cB cZ : ClassId) (a_this : Nat) (a_house : Nat) (a_house_wets : Nat) (a_house_guests : Nat) (a_house_guests_cells : Nat) (a_house_sights : Nat) (a_house_remarks : Nat) (a_house_marks : Nat) (a_house_past : Nat) (a_house_past_cells : Nat) (a_spare : Nat) (a_image0 : Nat) (a_image1 : Nat) (a_script : Nat) (a_telling : Nat) (a_lineup : Nat) (a_wits : Nat) (house_wets : (Nat → Int32)) (house_guests_cells : (Nat → Int32)) (house_guests_rows : Int32) (house_past_cells : (Nat → Int32)) (house_past_rows : Int32) (house_host : Int32) (house_rooms : Int32) (house_night : Int32) (house_wheels : Int32) (house_turned : Int32) (kept0 : Int32) (kept1 : Int32) (above : Int32) (below : Int32) (bads : Int32) (nos : Int32) (fulls : Int32) (p1 : Int32) (rv : Int32 × (Nat → Int32) × (Nat → Int32) × Int32 × Int32 × Int32 × Int32 × Int32) (sz : Nat) (hf : f_X8_comes house_wets house_guests_rows house_host house_rooms house_night house_guests_cells house_past_cells house_past_rows house_wheels house_turned bads nos p1 = some rv) : Met l yX8_comes wsX8_comes rm_X8_comes (sPc D vwCl (s_tys cI cB cZ) [.ref a_this, .int p1] (wd_X8_comes cI cB cZ a_this a_house a_house_wets a_house_guests a_house_guests_cells a_house_sights a_house_remarks a_house_marks a_house_past a_house_past_cells a_spare a_image0 a_image1 a_script a_telling a_lineup a_wits house_wets house_guests_cells house_guests_rows house_past_cells house_past_rows house_host house_rooms house_night house_wheels house_turned kept0 kept1 above below bads nos fulls) sz) (sQi D vwCl (wd_X8_comes cI cB cZ a_this a_house a_house_wets a_house_guests a_house_guests_cells a_house_sights a_house_remarks a_house_marks a_house_past a_house_past_cells a_spare a_image0 a_image1 a_script a_telling a_lineup a_wits house_wets house_guests_cells house_guests_rows house_past_cells house_past_rows house_host house_rooms house_night house_wheels house_turned kept0 kept1 above below bads nos fulls) (wd_X8_comes cI cB cZ a_this a_house a_house_wets a_house_guests a_house_guests_cells a_house_sights a_house_remarks a_house_marks a_house_past a_house_past_cells a_spare a_image0 a_image1 a_script a_telling a_lineup a_wits house_wets rv.2.1 house_guests_rows rv.2.2.1 rv.2.2.2.1 house_host house_rooms house_night rv.2.2.2.2.1 rv.2.2.2.2.2.1 kept0 kept1 above below rv.2.2.2.2.2.2.1 rv.2.2.2.2.2.2.2 fulls) sz rv.1) 0 0 (va_A (wd_X8_comes cI cB cZ a_this a_house a_house_wets a_house_guests a_house_guests_cells a_house_sights a_house_remarks a_house_marks a_house_past a_house_past_cells a_spare a_image0 a_image1 a_script a_telling a_lineup a_wits house_wets house_guests_cells house_guests_rows house_past_cells house_past_rows house_host house_rooms house_night house_wheels house_turned kept0 kept1 above below bads nos fulls) sz) := by
  refine s_enter_n (cc := cX8_comes) (nL := 2) (r := rv.1) (by decide) rfl (Nat.le_of_ble_eq_true rfl) ?_
  intro p e s m args below meth c A Q C0 hend ls hl hS
  have h := hf
  clear hf
  replace hl : lv_has ls 2 [(0, .ref a_this), (1, .int p1)] := hl
  unfold f_X8_comes at h
  obtain ⟨hx, hb, hml, hown, hts, hK, hA⟩ := id C0
  have inX1 : ∀ w ∈ u_ws RX1 TX1 11, w ∈ wsX8_comes := inX1_X8_comes
  have inX5 : ∀ w ∈ u_ws RX5 TX5 4, w ∈ wsX8_comes := inX5_X8_comes
  have inX8 : ∀ w ∈ u_ws RX8 TX8 15, w ∈ wsX8_comes := inX8_X8_comes
  refine lv_aload_n hx hb dX8_comes_0 rfl (lv_at hl 0 rfl) ?_
  refine s_get (C := RX8) (T := TX8) (N := 15) hx hb hts inX8 hown hK hS 0 rfl rfl 0 (by decide) (hts (.fieldLink RX8 10 "InnTurned" "house" "LInnTurned$House;") (List.mem_of_getElem? (i := 1) rfl)) rfl rfl dX8_comes_1 ?_
  refine lv_iload_n hx hb dX8_comes_4 rfl (lv_at hl 1 rfl) ?_
  obtain ⟨q1, hq1, h⟩ := s_bind h
  refine s_calliV (r := q1) (As := [.int p1]) (rest := []) (wc := (wd_X1_isThere cI cB cZ a_house a_house_wets a_house_guests a_house_guests_cells a_house_sights a_house_remarks a_house_marks a_house_past house_guests_rows house_host house_rooms house_night house_wheels house_turned)) (w1 := (wd_X1_isThere cI cB cZ a_house a_house_wets a_house_guests a_house_guests_cells a_house_sights a_house_remarks a_house_marks a_house_past house_guests_rows house_host house_rooms house_night house_wheels house_turned)) (ws' := (wd_X8_comes cI cB cZ a_this a_house a_house_wets a_house_guests a_house_guests_cells a_house_sights a_house_remarks a_house_marks a_house_past a_house_past_cells a_spare a_image0 a_image1 a_script a_telling a_lineup a_wits house_wets house_guests_cells house_guests_rows house_past_cells house_past_rows house_host house_rooms house_night house_wheels house_turned kept0 kept1 above below bads nos fulls)) hx hb hml hown hts hK hA hl hS (c_X1_isThere l D cI cB cZ a_house a_house_wets a_house_guests a_house_guests_cells a_house_sights a_house_remarks a_house_marks a_house_past house_guests_rows house_host house_rooms house_night house_wheels house_turned p1 _ _ hq1) (cwV 1 hts gX8_comes_X1_isThere rfl rfl rfl (by decide +kernel) ⟨Nat.le_of_ble_eq_true rfl, Nat.le_of_ble_eq_true rfl⟩) 1 rfl rfl [1, 3] rfl rfl rfl rfl rfl rfl (Nat.le_of_ble_eq_true rfl) dX8_comes_5 (fun H locs hS => ?_)
  refine lv_if_ne (tgt := 16) hx hb dX8_comes_8 (by decide) (fun c2 => ?_) (fun c2 => ?_)
  · replace h := s_no c2 h
    refine lv_aload_n hx hb dX8_comes_16 rfl (lv_at hl 0 rfl) ?_
    refine s_get (C := RX8) (T := TX8) (N := 15) hx hb hts inX8 hown hK hS 0 rfl rfl 0 (by decide) (hts (.fieldLink RX8 10 "InnTurned" "house" "LInnTurned$House;") (List.mem_of_getElem? (i := 1) rfl)) rfl rfl dX8_comes_17 ?_
    refine lv_iload_n hx hb dX8_comes_20 rfl (lv_at hl 1 rfl) ?_
    obtain ⟨q3, hq3, h⟩ := s_bind h
    refine s_calliV (r := q3) (As := [.int p1]) (rest := []) (wc := (wd_X1_isIn cI cB cZ a_house a_house_wets a_house_guests a_house_guests_cells a_house_sights a_house_remarks a_house_marks a_house_past house_guests_cells house_guests_rows house_host house_rooms house_night house_wheels house_turned)) (w1 := (wd_X1_isIn cI cB cZ a_house a_house_wets a_house_guests a_house_guests_cells a_house_sights a_house_remarks a_house_marks a_house_past house_guests_cells house_guests_rows house_host house_rooms house_night house_wheels house_turned)) (ws' := (wd_X8_comes cI cB cZ a_this a_house a_house_wets a_house_guests a_house_guests_cells a_house_sights a_house_remarks a_house_marks a_house_past a_house_past_cells a_spare a_image0 a_image1 a_script a_telling a_lineup a_wits house_wets house_guests_cells house_guests_rows house_past_cells house_past_rows house_host house_rooms house_night house_wheels house_turned kept0 kept1 above below bads nos fulls)) hx hb hml hown hts hK hA hl hS (c_X1_isIn l D cI cB cZ a_house a_house_wets a_house_guests a_house_guests_cells a_house_sights a_house_remarks a_house_marks a_house_past house_guests_cells house_guests_rows house_host house_rooms house_night house_wheels house_turned p1 _ _ hq3) (cwV 1 hts gX8_comes_X1_isIn rfl rfl rfl (by decide +kernel) ⟨Nat.le_of_ble_eq_true rfl, Nat.le_of_ble_eq_true rfl⟩) 1 rfl rfl [1, 3, 4] rfl rfl rfl rfl rfl rfl (Nat.le_of_ble_eq_true rfl) dX8_comes_21 (fun H locs hS => ?_)
    refine lv_if_eq (tgt := 32) hx hb dX8_comes_24 (by decide) (fun c4 => ?_) (fun c4 => ?_)
    · replace h := s_yes c4 h
      refine lv_aload_n hx hb dX8_comes_32 rfl (lv_at hl 0 rfl) ?_
      refine s_get (C := RX8) (T := TX8) (N := 15) hx hb hts inX8 hown hK hS 0 rfl rfl 0 (by decide) (hts (.fieldLink RX8 10 "InnTurned" "house" "LInnTurned$House;") (List.mem_of_getElem? (i := 1) rfl)) rfl rfl dX8_comes_33 ?_
      obtain ⟨q5, hq5, h⟩ := s_bind h
      refine s_callvV (As := []) (rest := []) (wc := (wd_X1_keep cI cB cZ a_house a_house_wets a_house_guests a_house_guests_cells a_house_sights a_house_remarks a_house_marks a_house_past a_house_past_cells house_guests_cells house_guests_rows house_past_cells house_past_rows house_host house_rooms house_night house_wheels house_turned)) (w1 := (wd_X1_keep cI cB cZ a_house a_house_wets a_house_guests a_house_guests_cells a_house_sights a_house_remarks a_house_marks a_house_past a_house_past_cells house_guests_cells house_guests_rows q5.1 q5.2 house_host house_rooms house_night house_wheels house_turned)) (ws' := (wd_X8_comes cI cB cZ a_this a_house a_house_wets a_house_guests a_house_guests_cells a_house_sights a_house_remarks a_house_marks a_house_past a_house_past_cells a_spare a_image0 a_image1 a_script a_telling a_lineup a_wits house_wets house_guests_cells house_guests_rows q5.1 q5.2 house_host house_rooms house_night house_wheels house_turned kept0 kept1 above below bads nos fulls)) hx hb hml hown hts hK hA hl hS (c_X1_keep l D cI cB cZ a_house a_house_wets a_house_guests a_house_guests_cells a_house_sights a_house_remarks a_house_marks a_house_past a_house_past_cells house_guests_cells house_guests_rows house_past_cells house_past_rows house_host house_rooms house_night house_wheels house_turned _ _ hq5) (cwV 0 hts gX8_comes_X1_keep rfl rfl rfl (by decide +kernel) ⟨Nat.le_of_ble_eq_true rfl, Nat.le_of_ble_eq_true rfl⟩) 1 rfl rfl [1, 3, 4, 5, 6] rfl rfl rfl rfl rfl rfl (Nat.le_of_ble_eq_true rfl) dX8_comes_36 (fun H locs hS => ?_)
      refine lv_aload_n hx hb dX8_comes_39 rfl (lv_at hl 0 rfl) ?_
      refine s_get (C := RX8) (T := TX8) (N := 15) hx hb hts inX8 hown hK hS 0 rfl rfl 0 (by decide) (hts (.fieldLink RX8 10 "InnTurned" "house" "LInnTurned$House;") (List.mem_of_getElem? (i := 1) rfl)) rfl rfl dX8_comes_40 ?_
      refine lv_iload_n hx hb dX8_comes_43 rfl (lv_at hl 1 rfl) ?_
      obtain ⟨q6, hq6, h⟩ := s_bind h
      refine s_calliV (r := q6.1) (As := [.int p1]) (rest := []) (wc := (wd_X1_arrive cI cB cZ a_house a_house_wets a_house_guests a_house_guests_cells a_house_sights a_house_remarks a_house_marks a_house_past house_wets house_guests_cells house_guests_rows house_host house_rooms house_night house_wheels house_turned)) (w1 := (wd_X1_arrive cI cB cZ a_house a_house_wets a_house_guests a_house_guests_cells a_house_sights a_house_remarks a_house_marks a_house_past house_wets q6.2.1 house_guests_rows house_host house_rooms house_night q6.2.2.1 q6.2.2.2)) (ws' := (wd_X8_comes cI cB cZ a_this a_house a_house_wets a_house_guests a_house_guests_cells a_house_sights a_house_remarks a_house_marks a_house_past a_house_past_cells a_spare a_image0 a_image1 a_script a_telling a_lineup a_wits house_wets q6.2.1 house_guests_rows q5.1 q5.2 house_host house_rooms house_night q6.2.2.1 q6.2.2.2 kept0 kept1 above below bads nos fulls)) hx hb hml hown hts hK hA hl hS (c_X1_arrive l D cI cB cZ a_house a_house_wets a_house_guests a_house_guests_cells a_house_sights a_house_remarks a_house_marks a_house_past house_wets house_guests_cells house_guests_rows house_host house_rooms house_night house_wheels house_turned p1 _ _ hq6) (cwV 1 hts gX8_comes_X1_arrive rfl rfl rfl (by decide +kernel) ⟨Nat.le_of_ble_eq_true rfl, Nat.le_of_ble_eq_true rfl⟩) 1 rfl rfl [1, 2, 3, 4] rfl rfl rfl rfl rfl rfl (Nat.le_of_ble_eq_true rfl) dX8_comes_44 (fun H locs hS => ?_)
      refine lv_if_eq (tgt := 54) hx hb dX8_comes_47 (by decide) (fun c7 => ?_) (fun c7 => ?_)
      · replace h := s_yes c7 h
        refine lv_iconst (v := (0 : Int32)) hx hb dX8_comes_54 (by decide) ?_
        obtain rfl := Option.some.inj h
        exact hend _ _ _ _ dX8_comes_55 hS
      replace h := s_no c7 h
      refine lv_iconst (v := (1 : Int32)) hx hb dX8_comes_50 (by decide) ?_
      refine lv_goto (tgt := 55) hx hb dX8_comes_51 (by decide) ?_
      obtain rfl := Option.some.inj h
      exact hend _ _ _ _ dX8_comes_55 hS
    replace h := s_no c4 h
    refine lv_aload_n hx hb dX8_comes_27 rfl (lv_at hl 0 rfl) ?_
    obtain ⟨q8, hq8, h⟩ := s_bind h
    refine s_calliV (r := q8.1) (As := []) (rest := []) (wc := (wd_X8_no cI cB cZ a_this a_house a_spare a_image0 a_image1 a_script a_telling a_lineup a_wits kept0 kept1 above below bads nos fulls)) (w1 := (wd_X8_no cI cB cZ a_this a_house a_spare a_image0 a_image1 a_script a_telling a_lineup a_wits kept0 kept1 above below bads q8.2 fulls)) (ws' := (wd_X8_comes cI cB cZ a_this a_house a_house_wets a_house_guests a_house_guests_cells a_house_sights a_house_remarks a_house_marks a_house_past a_house_past_cells a_spare a_image0 a_image1 a_script a_telling a_lineup a_wits house_wets house_guests_cells house_guests_rows house_past_cells house_past_rows house_host house_rooms house_night house_wheels house_turned kept0 kept1 above below bads q8.2 fulls)) hx hb hml hown hts hK hA hl hS (c_X8_no l D cI cB cZ a_this a_house a_spare a_image0 a_image1 a_script a_telling a_lineup a_wits kept0 kept1 above below bads nos fulls _ _ hq8) (cwV 0 hts gX8_comes_X8_no rfl rfl rfl (by decide +kernel) ⟨Nat.le_of_ble_eq_true rfl, Nat.le_of_ble_eq_true rfl⟩) 0 rfl rfl [0] rfl rfl rfl rfl rfl rfl (Nat.le_of_ble_eq_true rfl) dX8_comes_28 (fun H locs hS => ?_)
    obtain rfl := Option.some.inj h
    exact hend _ _ _ _ dX8_comes_31 hS
  replace h := s_yes c2 h
  refine lv_aload_n hx hb dX8_comes_11 rfl (lv_at hl 0 rfl) ?_
  obtain ⟨q9, hq9, h⟩ := s_bind h
  refine s_calliV (r := q9.1) (As := []) (rest := []) (wc := (wd_X8_bad cI cB cZ a_this a_house a_spare a_image0 a_image1 a_script a_telling a_lineup a_wits kept0 kept1 above below bads nos fulls)) (w1 := (wd_X8_bad cI cB cZ a_this a_house a_spare a_image0 a_image1 a_script a_telling a_lineup a_wits kept0 kept1 above below q9.2 nos fulls)) (ws' := (wd_X8_comes cI cB cZ a_this a_house a_house_wets a_house_guests a_house_guests_cells a_house_sights a_house_remarks a_house_marks a_house_past a_house_past_cells a_spare a_image0 a_image1 a_script a_telling a_lineup a_wits house_wets house_guests_cells house_guests_rows house_past_cells house_past_rows house_host house_rooms house_night house_wheels house_turned kept0 kept1 above below q9.2 nos fulls)) hx hb hml hown hts hK hA hl hS (c_X8_bad l D cI cB cZ a_this a_house a_spare a_image0 a_image1 a_script a_telling a_lineup a_wits kept0 kept1 above below bads nos fulls _ _ hq9) (cwV 0 hts gX8_comes_X8_bad rfl rfl rfl (by decide +kernel) ⟨Nat.le_of_ble_eq_true rfl, Nat.le_of_ble_eq_true rfl⟩) 0 rfl rfl [0] rfl rfl rfl rfl rfl rfl (Nat.le_of_ble_eq_true rfl) dX8_comes_12 (fun H locs hS => ?_)
  obtain rfl := Option.some.inj h
  exact hend _ _ _ _ dX8_comes_15 hS

