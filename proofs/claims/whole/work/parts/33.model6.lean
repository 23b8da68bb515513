-- InnTurnedModel.spells(IIIIIII)Z
def wd_X9_spells (cI cB cZ : ClassId) (a_this : Nat) (a_all : Nat) (a_kept : Nat) (a_isKept : Nat) (a_refused : Nat) (a_hand : Nat) (a_outs : Nat) (a_order0 : Nat) (a_bestOrder : Nat) (a_tells : Nat) (a_bytes : Nat) (a_anew : Nat) (a_values : Nat)  (above : Int64) (below_ : Int64) (bytes : (Nat → Int32)) (bytesLong : Int32) (tokenAt : Int32) (tokenLong : Int32) (token : Int32) (value : Int32) : va_W := [(a_this, .inr (6, [.ref a_all, .ref a_kept, .ref a_isKept, .ref a_refused, .long above, .long below_, .ref a_hand, .ref a_outs, .ref a_order0, .ref a_bestOrder, .ref a_tells, .ref a_bytes, .int bytesLong, .int tokenAt, .int tokenLong, .int token, .int value, .ref a_anew, .ref a_values])), (a_bytes, .inl (cI, 150, .inl bytes))]
abbrev rm_X9_spells : Room := { frames := 0, cells := 0, slots := 0, locals := 0 }
set_option maxRecDepth 20000 in
theorem inX9_X9_spells : ∀ w ∈ u_ws RX9 TX9 19, w ∈ wsX9_spells := by decide +kernel
def f_X9_spells_b111 (k_b26 : Int32 → Int32 → Int32 → Int32 → Int32 → Int32 → Int32 → Int32 → Int32 → Option (Int32))  (bytes : (Nat → Int32)) (tokenAt : Int32) (tokenLong : Int32) (token : Int32)  (l1 : Int32) (l2 : Int32) (l3 : Int32) (l4 : Int32) (l5 : Int32) (l6 : Int32) (l7 : Int32) (l9 : Int32) (t0 : Int32) : Option (Int32) := k_b26 l1 l2 l3 l4 l5 l6 l7 t0 (l9 + (1 : Int32))
set_option maxHeartbeats 4000000 in
set_option maxRecDepth 100000 in
theorem w_X9_spells_b111 {p : Program} {l : Launch} {e : Env} {s : State} {m : MethodId} {args : Array Value} {below : List Frame} {meth : Method} {c : Code} {A : Nat → Prop} {Q : State → Prop} {D : va_G} {cI cB cZ : ClassId} {a_this a_all a_kept a_isKept a_refused a_hand a_outs a_order0 a_bestOrder a_tells a_bytes a_anew a_values : Nat} {above : Int64} {below_ : Int64} {bytes : (Nat → Int32)} {bytesLong : Int32} {tokenAt : Int32} {tokenLong : Int32} {token : Int32} {value : Int32} (C0 : Cx p s m args c cX9_spells 10 RX9 wsX9_spells D (s_tys cI cB cZ) A) {rv : Int32} (hend : ∀ (pc : Nat) (H : Heap) (locs : List Loc) (ls : Array Slot), decode cX9_spells pc = .ok (.ireturn, 1) → (rv = 0 ∨ rv = 1) → sS D vwCl A s.heap (wd_X9_spells cI cB cZ a_this a_all a_kept a_isKept a_refused a_hand a_outs a_order0 a_bestOrder a_tells a_bytes a_anew a_values above below_ bytes bytesLong tokenAt tokenLong token value) H locs → W p l e rm_X9_spells s m args below meth c H locs 0 0 Q (F0 m pc ls [.int rv])) (k_b26 : Int32 → Int32 → Int32 → Int32 → Int32 → Int32 → Int32 → Int32 → Int32 → Option (Int32)) (hk_b26 : ∀  (l1 : Int32) (l2 : Int32) (l3 : Int32) (l4 : Int32) (l5 : Int32) (l6 : Int32) (l7 : Int32) (l8 : Int32) (l9 : Int32) (H : Heap) (locs : List Loc) (ls : Array Slot), k_b26 l1 l2 l3 l4 l5 l6 l7 l8 l9 = some rv → sS D vwCl A s.heap (wd_X9_spells cI cB cZ a_this a_all a_kept a_isKept a_refused a_hand a_outs a_order0 a_bestOrder a_tells a_bytes a_anew a_values above below_ bytes bytesLong tokenAt tokenLong token value) H locs → lv_has ls 10 [(0, .ref a_this), (1, .int l1), (2, .int l2), (3, .int l3), (4, .int l4), (5, .int l5), (6, .int l6), (7, .int l7), (8, .int l8), (9, .int l9)] → W p l e rm_X9_spells s m args below meth c H locs 0 0 Q (F0 m 26 ls [])) : ∀  (l1 : Int32) (l2 : Int32) (l3 : Int32) (l4 : Int32) (l5 : Int32) (l6 : Int32) (l7 : Int32) (l9 : Int32) (t0 : Int32) (H : Heap) (locs : List Loc) (ls : Array Slot), f_X9_spells_b111 k_b26 bytes tokenAt tokenLong token l1 l2 l3 l4 l5 l6 l7 l9 t0 = some rv → sS D vwCl A s.heap (wd_X9_spells cI cB cZ a_this a_all a_kept a_isKept a_refused a_hand a_outs a_order0 a_bestOrder a_tells a_bytes a_anew a_values above below_ bytes bytesLong tokenAt tokenLong token value) H locs → lv_has ls 10 [(0, .ref a_this), (1, .int l1), (2, .int l2), (3, .int l3), (4, .int l4), (5, .int l5), (6, .int l6), (7, .int l7), (9, .int l9)] → W p l e rm_X9_spells s m args below meth c H locs 0 0 Q (F0 m 111 ls [.int t0]) := by
  obtain ⟨hx, hb, hml, hown, hts, hK, hA⟩ := id C0
  have inX9 : ∀ w ∈ u_ws RX9 TX9 19, w ∈ wsX9_spells := inX9_X9_spells
  intro l1 l2 l3 l4 l5 l6 l7 l9 t0 H locs ls h hS hl
  unfold f_X9_spells_b111 at h
  refine lv_istore (lv' := [(8, .int t0), (0, .ref a_this), (1, .int l1), (2, .int l2), (3, .int l3), (4, .int l4), (5, .int l5), (6, .int l6), (7, .int l7), (9, .int l9)]) hx hb dX9_spells_111 hl (by decide) rfl (fun ls hl => ?_)
  refine lv_iinc (v := (l9 + (1 : Int32))) (lv' := [(9, .int (l9 + (1 : Int32))), (8, .int t0), (0, .ref a_this), (1, .int l1), (2, .int l2), (3, .int l3), (4, .int l4), (5, .int l5), (6, .int l6), (7, .int l7)]) hx hb dX9_spells_113 hl (k := 9) rfl rfl (by decide) rfl (fun ls hl => ?_)
  refine lv_goto (tgt := 26) hx hb dX9_spells_116 (by decide) ?_
  exact hk_b26 l1 l2 l3 l4 l5 l6 l7 t0 (l9 + (1 : Int32)) _ _ _ h hS (lv_sub hl [2, 3, 4, 5, 6, 7, 8, 9, 1, 0] rfl)
def f_X9_spells_b103 (k_b26 : Int32 → Int32 → Int32 → Int32 → Int32 → Int32 → Int32 → Int32 → Int32 → Option (Int32))  (bytes : (Nat → Int32)) (tokenAt : Int32) (tokenLong : Int32) (token : Int32)  (l1 : Int32) (l2 : Int32) (l3 : Int32) (l4 : Int32) (l5 : Int32) (l6 : Int32) (l7 : Int32) (l9 : Int32) (t0 : Int32) (t1 : Int32) : Option (Int32) := (if t1 = t0 then f_X9_spells_b111 k_b26 bytes tokenAt tokenLong token l1 l2 l3 l4 l5 l6 l7 l9 (1 : Int32) else f_X9_spells_b111 k_b26 bytes tokenAt tokenLong token l1 l2 l3 l4 l5 l6 l7 l9 (0 : Int32))
set_option maxHeartbeats 4000000 in
set_option maxRecDepth 100000 in
theorem w_X9_spells_b103 {p : Program} {l : Launch} {e : Env} {s : State} {m : MethodId} {args : Array Value} {below : List Frame} {meth : Method} {c : Code} {A : Nat → Prop} {Q : State → Prop} {D : va_G} {cI cB cZ : ClassId} {a_this a_all a_kept a_isKept a_refused a_hand a_outs a_order0 a_bestOrder a_tells a_bytes a_anew a_values : Nat} {above : Int64} {below_ : Int64} {bytes : (Nat → Int32)} {bytesLong : Int32} {tokenAt : Int32} {tokenLong : Int32} {token : Int32} {value : Int32} (C0 : Cx p s m args c cX9_spells 10 RX9 wsX9_spells D (s_tys cI cB cZ) A) {rv : Int32} (hend : ∀ (pc : Nat) (H : Heap) (locs : List Loc) (ls : Array Slot), decode cX9_spells pc = .ok (.ireturn, 1) → (rv = 0 ∨ rv = 1) → sS D vwCl A s.heap (wd_X9_spells cI cB cZ a_this a_all a_kept a_isKept a_refused a_hand a_outs a_order0 a_bestOrder a_tells a_bytes a_anew a_values above below_ bytes bytesLong tokenAt tokenLong token value) H locs → W p l e rm_X9_spells s m args below meth c H locs 0 0 Q (F0 m pc ls [.int rv])) (k_b26 : Int32 → Int32 → Int32 → Int32 → Int32 → Int32 → Int32 → Int32 → Int32 → Option (Int32)) (hk_b26 : ∀  (l1 : Int32) (l2 : Int32) (l3 : Int32) (l4 : Int32) (l5 : Int32) (l6 : Int32) (l7 : Int32) (l8 : Int32) (l9 : Int32) (H : Heap) (locs : List Loc) (ls : Array Slot), k_b26 l1 l2 l3 l4 l5 l6 l7 l8 l9 = some rv → sS D vwCl A s.heap (wd_X9_spells cI cB cZ a_this a_all a_kept a_isKept a_refused a_hand a_outs a_order0 a_bestOrder a_tells a_bytes a_anew a_values above below_ bytes bytesLong tokenAt tokenLong token value) H locs → lv_has ls 10 [(0, .ref a_this), (1, .int l1), (2, .int l2), (3, .int l3), (4, .int l4), (5, .int l5), (6, .int l6), (7, .int l7), (8, .int l8), (9, .int l9)] → W p l e rm_X9_spells s m args below meth c H locs 0 0 Q (F0 m 26 ls [])) : ∀  (l1 : Int32) (l2 : Int32) (l3 : Int32) (l4 : Int32) (l5 : Int32) (l6 : Int32) (l7 : Int32) (l9 : Int32) (t0 : Int32) (t1 : Int32) (H : Heap) (locs : List Loc) (ls : Array Slot), f_X9_spells_b103 k_b26 bytes tokenAt tokenLong token l1 l2 l3 l4 l5 l6 l7 l9 t0 t1 = some rv → sS D vwCl A s.heap (wd_X9_spells cI cB cZ a_this a_all a_kept a_isKept a_refused a_hand a_outs a_order0 a_bestOrder a_tells a_bytes a_anew a_values above below_ bytes bytesLong tokenAt tokenLong token value) H locs → lv_has ls 10 [(0, .ref a_this), (1, .int l1), (2, .int l2), (3, .int l3), (4, .int l4), (5, .int l5), (6, .int l6), (7, .int l7), (9, .int l9)] → W p l e rm_X9_spells s m args below meth c H locs 0 0 Q (F0 m 103 ls [.int t0, .int t1]) := by
  obtain ⟨hx, hb, hml, hown, hts, hK, hA⟩ := id C0
  have inX9 : ∀ w ∈ u_ws RX9 TX9 19, w ∈ wsX9_spells := inX9_X9_spells
  intro l1 l2 l3 l4 l5 l6 l7 l9 t0 t1 H locs ls h hS hl
  unfold f_X9_spells_b103 at h
  refine lv_icmp_ne (tgt := 110) hx hb dX9_spells_103 (by decide) (fun c1 => ?_) (fun c1 => ?_)
  · replace h := s_no c1 h
    refine lv_iconst (v := (0 : Int32)) hx hb dX9_spells_110 (by decide) ?_
    exact w_X9_spells_b111 C0 hend k_b26 hk_b26 l1 l2 l3 l4 l5 l6 l7 l9 (0 : Int32) _ _ _ h hS (lv_sub hl [0, 1, 2, 3, 4, 5, 6, 7, 8] rfl)
  replace h := s_yes c1 h
  refine lv_iconst (v := (1 : Int32)) hx hb dX9_spells_106 (by decide) ?_
  refine lv_goto (tgt := 111) hx hb dX9_spells_107 (by decide) ?_
  exact w_X9_spells_b111 C0 hend k_b26 hk_b26 l1 l2 l3 l4 l5 l6 l7 l9 (1 : Int32) _ _ _ h hS (lv_sub hl [0, 1, 2, 3, 4, 5, 6, 7, 8] rfl)
def f_X9_spells_b26  (bytes : (Nat → Int32)) (tokenAt : Int32) (tokenLong : Int32) (token : Int32) : Nat → Int32 → Int32 → Int32 → Int32 → Int32 → Int32 → Int32 → Int32 → Int32 → Option (Int32)
  | 0, _, _, _, _, _, _, _, _, _ => none
  | fu + 1, l1, l2, l3, l4, l5, l6, l7, l8, l9 => (if l1 ≤ l9 then (if l8 = 0 ∨ l8 = 1 then some (l8) else none) else (if l8 = 0 then (if l8 = 0 ∨ l8 = 1 then some (l8) else none) else (if ¬ ((tokenAt + l9) < 0 ∨ 150 ≤ (Int32.toNatClampNeg (tokenAt + l9))) then (if l9 = 0 then f_X9_spells_b103 (f_X9_spells_b26 bytes tokenAt tokenLong token fu) bytes tokenAt tokenLong token l1 l2 l3 l4 l5 l6 l7 l9 l2 (bytes (Int32.toNatClampNeg (tokenAt + l9))) else (if l9 = (1 : Int32) then f_X9_spells_b103 (f_X9_spells_b26 bytes tokenAt tokenLong token fu) bytes tokenAt tokenLong token l1 l2 l3 l4 l5 l6 l7 l9 l3 (bytes (Int32.toNatClampNeg (tokenAt + l9))) else (if l9 = (2 : Int32) then f_X9_spells_b103 (f_X9_spells_b26 bytes tokenAt tokenLong token fu) bytes tokenAt tokenLong token l1 l2 l3 l4 l5 l6 l7 l9 l4 (bytes (Int32.toNatClampNeg (tokenAt + l9))) else (if l9 = (3 : Int32) then f_X9_spells_b103 (f_X9_spells_b26 bytes tokenAt tokenLong token fu) bytes tokenAt tokenLong token l1 l2 l3 l4 l5 l6 l7 l9 l5 (bytes (Int32.toNatClampNeg (tokenAt + l9))) else (if l9 = (4 : Int32) then f_X9_spells_b103 (f_X9_spells_b26 bytes tokenAt tokenLong token fu) bytes tokenAt tokenLong token l1 l2 l3 l4 l5 l6 l7 l9 l6 (bytes (Int32.toNatClampNeg (tokenAt + l9))) else f_X9_spells_b103 (f_X9_spells_b26 bytes tokenAt tokenLong token fu) bytes tokenAt tokenLong token l1 l2 l3 l4 l5 l6 l7 l9 l7 (bytes (Int32.toNatClampNeg (tokenAt + l9)))))))) else none)))
set_option maxHeartbeats 4000000 in
set_option maxRecDepth 100000 in
theorem w_X9_spells_b26 {p : Program} {l : Launch} {e : Env} {s : State} {m : MethodId} {args : Array Value} {below : List Frame} {meth : Method} {c : Code} {A : Nat → Prop} {Q : State → Prop} {D : va_G} {cI cB cZ : ClassId} {a_this a_all a_kept a_isKept a_refused a_hand a_outs a_order0 a_bestOrder a_tells a_bytes a_anew a_values : Nat} {above : Int64} {below_ : Int64} {bytes : (Nat → Int32)} {bytesLong : Int32} {tokenAt : Int32} {tokenLong : Int32} {token : Int32} {value : Int32} (C0 : Cx p s m args c cX9_spells 10 RX9 wsX9_spells D (s_tys cI cB cZ) A) {rv : Int32} (hend : ∀ (pc : Nat) (H : Heap) (locs : List Loc) (ls : Array Slot), decode cX9_spells pc = .ok (.ireturn, 1) → (rv = 0 ∨ rv = 1) → sS D vwCl A s.heap (wd_X9_spells cI cB cZ a_this a_all a_kept a_isKept a_refused a_hand a_outs a_order0 a_bestOrder a_tells a_bytes a_anew a_values above below_ bytes bytesLong tokenAt tokenLong token value) H locs → W p l e rm_X9_spells s m args below meth c H locs 0 0 Q (F0 m pc ls [.int rv])) : ∀ (fu : Nat)  (l1 : Int32) (l2 : Int32) (l3 : Int32) (l4 : Int32) (l5 : Int32) (l6 : Int32) (l7 : Int32) (l8 : Int32) (l9 : Int32) (H : Heap) (locs : List Loc) (ls : Array Slot), f_X9_spells_b26 bytes tokenAt tokenLong token fu l1 l2 l3 l4 l5 l6 l7 l8 l9 = some rv → sS D vwCl A s.heap (wd_X9_spells cI cB cZ a_this a_all a_kept a_isKept a_refused a_hand a_outs a_order0 a_bestOrder a_tells a_bytes a_anew a_values above below_ bytes bytesLong tokenAt tokenLong token value) H locs → lv_has ls 10 [(0, .ref a_this), (1, .int l1), (2, .int l2), (3, .int l3), (4, .int l4), (5, .int l5), (6, .int l6), (7, .int l7), (8, .int l8), (9, .int l9)] → W p l e rm_X9_spells s m args below meth c H locs 0 0 Q (F0 m 26 ls []) := by
  obtain ⟨hx, hb, hml, hown, hts, hK, hA⟩ := id C0
  have inX9 : ∀ w ∈ u_ws RX9 TX9 19, w ∈ wsX9_spells := inX9_X9_spells
  intro fu
  induction fu with
  | zero => intro l1 l2 l3 l4 l5 l6 l7 l8 l9 H locs ls h; cases h
  | succ fu ih =>
    intro l1 l2 l3 l4 l5 l6 l7 l8 l9 H locs ls h hS hl
    rw [f_X9_spells_b26] at h
    refine lv_iload hx hb dX9_spells_26 (lv_at hl 9 rfl) ?_
    refine lv_iload_n hx hb dX9_spells_28 rfl (lv_at hl 1 rfl) ?_
    refine lv_icmp_ge (tgt := 119) hx hb dX9_spells_29 (by decide) (fun c2 => ?_) (fun c2 => ?_)
    · replace h := s_yes c2 h
      refine lv_iload hx hb dX9_spells_119 (lv_at hl 8 rfl) ?_
      obtain ⟨g3, h⟩ := s_guard h
      obtain rfl := Option.some.inj h
      exact hend _ _ _ _ dX9_spells_121 g3 hS
    replace h := s_no c2 h
    refine lv_iload hx hb dX9_spells_32 (lv_at hl 8 rfl) ?_
    refine lv_if_eq (tgt := 119) hx hb dX9_spells_34 (by decide) (fun c4 => ?_) (fun c4 => ?_)
    · replace h := s_yes c4 h
      refine lv_iload hx hb dX9_spells_119 (lv_at hl 8 rfl) ?_
      obtain ⟨g5, h⟩ := s_guard h
      obtain rfl := Option.some.inj h
      exact hend _ _ _ _ dX9_spells_121 g5 hS
    replace h := s_no c4 h
    refine lv_aload_n hx hb dX9_spells_37 rfl (lv_at hl 0 rfl) ?_
    refine s_get (C := RX9) (T := TX9) (N := 19) hx hb hts inX9 hown hK hS 0 rfl rfl 11 (by decide) (hts (.fieldLink RX9 42 "InnTurnedModel" "bytes" "[I") (List.mem_of_getElem? (i := 3) rfl)) rfl rfl dX9_spells_38 ?_
    refine lv_aload_n hx hb dX9_spells_41 rfl (lv_at hl 0 rfl) ?_
    refine s_get (C := RX9) (T := TX9) (N := 19) hx hb hts inX9 hown hK hS 0 rfl rfl 13 (by decide) (hts (.fieldLink RX9 228 "InnTurnedModel" "tokenAt" "I") (List.mem_of_getElem? (i := 4) rfl)) rfl rfl dX9_spells_42 ?_
    refine lv_iload hx hb dX9_spells_45 (lv_at hl 9 rfl) ?_
    refine lv_iadd hx hb dX9_spells_47 ?_
    obtain ⟨g6, h⟩ := s_guard h
    refine s_iald hx hb hK hS 1 rfl rfl g6 dX9_spells_48 ?_
    refine lv_iload hx hb dX9_spells_49 (lv_at hl 9 rfl) ?_
    refine lv_if_ne (tgt := 58) hx hb dX9_spells_51 (by decide) (fun c7 => ?_) (fun c7 => ?_)
    · replace h := s_no c7 h
      refine lv_iload hx hb dX9_spells_58 (lv_at hl 9 rfl) ?_
      refine lv_iconst (v := (1 : Int32)) hx hb dX9_spells_60 (by decide) ?_
      refine lv_icmp_ne (tgt := 68) hx hb dX9_spells_61 (by decide) (fun c8 => ?_) (fun c8 => ?_)
      · replace h := s_no c8 h
        refine lv_iload hx hb dX9_spells_68 (lv_at hl 9 rfl) ?_
        refine lv_iconst (v := (2 : Int32)) hx hb dX9_spells_70 (by decide) ?_
        refine lv_icmp_ne (tgt := 79) hx hb dX9_spells_71 (by decide) (fun c9 => ?_) (fun c9 => ?_)
        · replace h := s_no c9 h
          refine lv_iload hx hb dX9_spells_79 (lv_at hl 9 rfl) ?_
          refine lv_iconst (v := (3 : Int32)) hx hb dX9_spells_81 (by decide) ?_
          refine lv_icmp_ne (tgt := 90) hx hb dX9_spells_82 (by decide) (fun c10 => ?_) (fun c10 => ?_)
          · replace h := s_no c10 h
            refine lv_iload hx hb dX9_spells_90 (lv_at hl 9 rfl) ?_
            refine lv_iconst (v := (4 : Int32)) hx hb dX9_spells_92 (by decide) ?_
            refine lv_icmp_ne (tgt := 101) hx hb dX9_spells_93 (by decide) (fun c11 => ?_) (fun c11 => ?_)
            · replace h := s_no c11 h
              refine lv_iload hx hb dX9_spells_101 (lv_at hl 7 rfl) ?_
              exact w_X9_spells_b103 C0 hend (f_X9_spells_b26 bytes tokenAt tokenLong token fu) ih l1 l2 l3 l4 l5 l6 l7 l9 l7 (bytes (Int32.toNatClampNeg (tokenAt + l9))) _ _ _ h hS (lv_sub hl [0, 1, 2, 3, 4, 5, 6, 7, 9] rfl)
            replace h := s_yes c11 h
            refine lv_iload hx hb dX9_spells_96 (lv_at hl 6 rfl) ?_
            refine lv_goto (tgt := 103) hx hb dX9_spells_98 (by decide) ?_
            exact w_X9_spells_b103 C0 hend (f_X9_spells_b26 bytes tokenAt tokenLong token fu) ih l1 l2 l3 l4 l5 l6 l7 l9 l6 (bytes (Int32.toNatClampNeg (tokenAt + l9))) _ _ _ h hS (lv_sub hl [0, 1, 2, 3, 4, 5, 6, 7, 9] rfl)
          replace h := s_yes c10 h
          refine lv_iload hx hb dX9_spells_85 (lv_at hl 5 rfl) ?_
          refine lv_goto (tgt := 103) hx hb dX9_spells_87 (by decide) ?_
          exact w_X9_spells_b103 C0 hend (f_X9_spells_b26 bytes tokenAt tokenLong token fu) ih l1 l2 l3 l4 l5 l6 l7 l9 l5 (bytes (Int32.toNatClampNeg (tokenAt + l9))) _ _ _ h hS (lv_sub hl [0, 1, 2, 3, 4, 5, 6, 7, 9] rfl)
        replace h := s_yes c9 h
        refine lv_iload hx hb dX9_spells_74 (lv_at hl 4 rfl) ?_
        refine lv_goto (tgt := 103) hx hb dX9_spells_76 (by decide) ?_
        exact w_X9_spells_b103 C0 hend (f_X9_spells_b26 bytes tokenAt tokenLong token fu) ih l1 l2 l3 l4 l5 l6 l7 l9 l4 (bytes (Int32.toNatClampNeg (tokenAt + l9))) _ _ _ h hS (lv_sub hl [0, 1, 2, 3, 4, 5, 6, 7, 9] rfl)
      replace h := s_yes c8 h
      refine lv_iload_n hx hb dX9_spells_64 rfl (lv_at hl 3 rfl) ?_
      refine lv_goto (tgt := 103) hx hb dX9_spells_65 (by decide) ?_
      exact w_X9_spells_b103 C0 hend (f_X9_spells_b26 bytes tokenAt tokenLong token fu) ih l1 l2 l3 l4 l5 l6 l7 l9 l3 (bytes (Int32.toNatClampNeg (tokenAt + l9))) _ _ _ h hS (lv_sub hl [0, 1, 2, 3, 4, 5, 6, 7, 9] rfl)
    replace h := s_yes c7 h
    refine lv_iload_n hx hb dX9_spells_54 rfl (lv_at hl 2 rfl) ?_
    refine lv_goto (tgt := 103) hx hb dX9_spells_55 (by decide) ?_
    exact w_X9_spells_b103 C0 hend (f_X9_spells_b26 bytes tokenAt tokenLong token fu) ih l1 l2 l3 l4 l5 l6 l7 l9 l2 (bytes (Int32.toNatClampNeg (tokenAt + l9))) _ _ _ h hS (lv_sub hl [0, 1, 2, 3, 4, 5, 6, 7, 9] rfl)
def f_X9_spells_b21  (bytes : (Nat → Int32)) (tokenAt : Int32) (tokenLong : Int32) (token : Int32)  (l1 : Int32) (l2 : Int32) (l3 : Int32) (l4 : Int32) (l5 : Int32) (l6 : Int32) (l7 : Int32) (t0 : Int32) : Option (Int32) := f_X9_spells_b26  bytes tokenAt tokenLong token s_fuel l1 l2 l3 l4 l5 l6 l7 t0 (0 : Int32)
set_option maxHeartbeats 4000000 in
set_option maxRecDepth 100000 in
theorem w_X9_spells_b21 {p : Program} {l : Launch} {e : Env} {s : State} {m : MethodId} {args : Array Value} {below : List Frame} {meth : Method} {c : Code} {A : Nat → Prop} {Q : State → Prop} {D : va_G} {cI cB cZ : ClassId} {a_this a_all a_kept a_isKept a_refused a_hand a_outs a_order0 a_bestOrder a_tells a_bytes a_anew a_values : Nat} {above : Int64} {below_ : Int64} {bytes : (Nat → Int32)} {bytesLong : Int32} {tokenAt : Int32} {tokenLong : Int32} {token : Int32} {value : Int32} (C0 : Cx p s m args c cX9_spells 10 RX9 wsX9_spells D (s_tys cI cB cZ) A) {rv : Int32} (hend : ∀ (pc : Nat) (H : Heap) (locs : List Loc) (ls : Array Slot), decode cX9_spells pc = .ok (.ireturn, 1) → (rv = 0 ∨ rv = 1) → sS D vwCl A s.heap (wd_X9_spells cI cB cZ a_this a_all a_kept a_isKept a_refused a_hand a_outs a_order0 a_bestOrder a_tells a_bytes a_anew a_values above below_ bytes bytesLong tokenAt tokenLong token value) H locs → W p l e rm_X9_spells s m args below meth c H locs 0 0 Q (F0 m pc ls [.int rv])) : ∀  (l1 : Int32) (l2 : Int32) (l3 : Int32) (l4 : Int32) (l5 : Int32) (l6 : Int32) (l7 : Int32) (t0 : Int32) (H : Heap) (locs : List Loc) (ls : Array Slot), f_X9_spells_b21 bytes tokenAt tokenLong token l1 l2 l3 l4 l5 l6 l7 t0 = some rv → sS D vwCl A s.heap (wd_X9_spells cI cB cZ a_this a_all a_kept a_isKept a_refused a_hand a_outs a_order0 a_bestOrder a_tells a_bytes a_anew a_values above below_ bytes bytesLong tokenAt tokenLong token value) H locs → lv_has ls 10 [(0, .ref a_this), (1, .int l1), (2, .int l2), (3, .int l3), (4, .int l4), (5, .int l5), (6, .int l6), (7, .int l7)] → W p l e rm_X9_spells s m args below meth c H locs 0 0 Q (F0 m 21 ls [.int t0]) := by
  obtain ⟨hx, hb, hml, hown, hts, hK, hA⟩ := id C0
  have inX9 : ∀ w ∈ u_ws RX9 TX9 19, w ∈ wsX9_spells := inX9_X9_spells
  intro l1 l2 l3 l4 l5 l6 l7 t0 H locs ls h hS hl
  unfold f_X9_spells_b21 at h
  refine lv_istore (lv' := [(8, .int t0), (0, .ref a_this), (1, .int l1), (2, .int l2), (3, .int l3), (4, .int l4), (5, .int l5), (6, .int l6), (7, .int l7)]) hx hb dX9_spells_21 hl (by decide) rfl (fun ls hl => ?_)
  refine lv_iconst (v := (0 : Int32)) hx hb dX9_spells_23 (by decide) ?_
  refine lv_istore (lv' := [(9, .int (0 : Int32)), (8, .int t0), (0, .ref a_this), (1, .int l1), (2, .int l2), (3, .int l3), (4, .int l4), (5, .int l5), (6, .int l6), (7, .int l7)]) hx hb dX9_spells_24 hl (by decide) rfl (fun ls hl => ?_)
  exact w_X9_spells_b26 C0 hend  s_fuel l1 l2 l3 l4 l5 l6 l7 t0 (0 : Int32) _ _ _ h hS (lv_sub hl [2, 3, 4, 5, 6, 7, 8, 9, 1, 0] rfl)
def f_X9_spells_b20  (bytes : (Nat → Int32)) (tokenAt : Int32) (tokenLong : Int32) (token : Int32)  (l1 : Int32) (l2 : Int32) (l3 : Int32) (l4 : Int32) (l5 : Int32) (l6 : Int32) (l7 : Int32) : Option (Int32) := f_X9_spells_b21  bytes tokenAt tokenLong token l1 l2 l3 l4 l5 l6 l7 (0 : Int32)
set_option maxHeartbeats 4000000 in
set_option maxRecDepth 100000 in
theorem w_X9_spells_b20 {p : Program} {l : Launch} {e : Env} {s : State} {m : MethodId} {args : Array Value} {below : List Frame} {meth : Method} {c : Code} {A : Nat → Prop} {Q : State → Prop} {D : va_G} {cI cB cZ : ClassId} {a_this a_all a_kept a_isKept a_refused a_hand a_outs a_order0 a_bestOrder a_tells a_bytes a_anew a_values : Nat} {above : Int64} {below_ : Int64} {bytes : (Nat → Int32)} {bytesLong : Int32} {tokenAt : Int32} {tokenLong : Int32} {token : Int32} {value : Int32} (C0 : Cx p s m args c cX9_spells 10 RX9 wsX9_spells D (s_tys cI cB cZ) A) {rv : Int32} (hend : ∀ (pc : Nat) (H : Heap) (locs : List Loc) (ls : Array Slot), decode cX9_spells pc = .ok (.ireturn, 1) → (rv = 0 ∨ rv = 1) → sS D vwCl A s.heap (wd_X9_spells cI cB cZ a_this a_all a_kept a_isKept a_refused a_hand a_outs a_order0 a_bestOrder a_tells a_bytes a_anew a_values above below_ bytes bytesLong tokenAt tokenLong token value) H locs → W p l e rm_X9_spells s m args below meth c H locs 0 0 Q (F0 m pc ls [.int rv])) : ∀  (l1 : Int32) (l2 : Int32) (l3 : Int32) (l4 : Int32) (l5 : Int32) (l6 : Int32) (l7 : Int32) (H : Heap) (locs : List Loc) (ls : Array Slot), f_X9_spells_b20 bytes tokenAt tokenLong token l1 l2 l3 l4 l5 l6 l7 = some rv → sS D vwCl A s.heap (wd_X9_spells cI cB cZ a_this a_all a_kept a_isKept a_refused a_hand a_outs a_order0 a_bestOrder a_tells a_bytes a_anew a_values above below_ bytes bytesLong tokenAt tokenLong token value) H locs → lv_has ls 10 [(0, .ref a_this), (1, .int l1), (2, .int l2), (3, .int l3), (4, .int l4), (5, .int l5), (6, .int l6), (7, .int l7)] → W p l e rm_X9_spells s m args below meth c H locs 0 0 Q (F0 m 20 ls []) := by
  obtain ⟨hx, hb, hml, hown, hts, hK, hA⟩ := id C0
  have inX9 : ∀ w ∈ u_ws RX9 TX9 19, w ∈ wsX9_spells := inX9_X9_spells
  intro l1 l2 l3 l4 l5 l6 l7 H locs ls h hS hl
  unfold f_X9_spells_b20 at h
  refine lv_iconst (v := (0 : Int32)) hx hb dX9_spells_20 (by decide) ?_
  exact w_X9_spells_b21 C0 hend  l1 l2 l3 l4 l5 l6 l7 (0 : Int32) _ _ _ h hS (lv_sub hl [0, 1, 2, 3, 4, 5, 6, 7] rfl)
def f_X9_spells  (bytes : (Nat → Int32)) (tokenAt : Int32) (tokenLong : Int32) (token : Int32)  (p1 : Int32) (p2 : Int32) (p3 : Int32) (p4 : Int32) (p5 : Int32) (p6 : Int32) (p7 : Int32) : Option (Int32) := (if token = (1 : Int32) then (if tokenLong = p1 then f_X9_spells_b21  bytes tokenAt tokenLong token p1 p2 p3 p4 p5 p6 p7 (1 : Int32) else f_X9_spells_b20  bytes tokenAt tokenLong token p1 p2 p3 p4 p5 p6 p7) else f_X9_spells_b20  bytes tokenAt tokenLong token p1 p2 p3 p4 p5 p6 p7)
set_option maxHeartbeats 4000000 in
set_option maxRecDepth 100000 in
theorem c_X9_spells (l : Launch) (D : va_G) (cI cB cZ : ClassId) (a_this : Nat) (a_all : Nat) (a_kept : Nat) (a_isKept : Nat) (a_refused : Nat) (a_hand : Nat) (a_outs : Nat) (a_order0 : Nat) (a_bestOrder : Nat) (a_tells : Nat) (a_bytes : Nat) (a_anew : Nat) (a_values : Nat) (above : Int64) (below_ : Int64) (bytes : (Nat → Int32)) (bytesLong : Int32) (tokenAt : Int32) (tokenLong : Int32) (token : Int32) (value : Int32) (p1 : Int32) (p2 : Int32) (p3 : Int32) (p4 : Int32) (p5 : Int32) (p6 : Int32) (p7 : Int32) (rv : Int32) (sz : Nat) (hf : f_X9_spells bytes tokenAt tokenLong token p1 p2 p3 p4 p5 p6 p7 = some rv) : Met l yX9_spells wsX9_spells rm_X9_spells (sPc D vwCl (s_tys cI cB cZ) [.ref a_this, .int p1, .int p2, .int p3, .int p4, .int p5, .int p6, .int p7] (wd_X9_spells cI cB cZ a_this a_all a_kept a_isKept a_refused a_hand a_outs a_order0 a_bestOrder a_tells a_bytes a_anew a_values above below_ bytes bytesLong tokenAt tokenLong token value) sz) (sQi D vwCl (wd_X9_spells cI cB cZ a_this a_all a_kept a_isKept a_refused a_hand a_outs a_order0 a_bestOrder a_tells a_bytes a_anew a_values above below_ bytes bytesLong tokenAt tokenLong token value) (wd_X9_spells cI cB cZ a_this a_all a_kept a_isKept a_refused a_hand a_outs a_order0 a_bestOrder a_tells a_bytes a_anew a_values above below_ bytes bytesLong tokenAt tokenLong token value) sz rv) 0 0 (va_A (wd_X9_spells cI cB cZ a_this a_all a_kept a_isKept a_refused a_hand a_outs a_order0 a_bestOrder a_tells a_bytes a_anew a_values above below_ bytes bytesLong tokenAt tokenLong token value) sz) := by
  refine s_enter_z (cc := cX9_spells) (nL := 10) (r := rv) (by decide) rfl (Nat.le_of_ble_eq_true rfl) ?_
  intro p e s m args below meth c A Q C0 hend ls hl hS
  have h := hf
  clear hf
  replace hl : lv_has ls 10 [(0, .ref a_this), (1, .int p1), (2, .int p2), (3, .int p3), (4, .int p4), (5, .int p5), (6, .int p6), (7, .int p7)] := hl
  unfold f_X9_spells at h
  obtain ⟨hx, hb, hml, hown, hts, hK, hA⟩ := id C0
  have inX9 : ∀ w ∈ u_ws RX9 TX9 19, w ∈ wsX9_spells := inX9_X9_spells
  refine lv_aload_n hx hb dX9_spells_0 rfl (lv_at hl 0 rfl) ?_
  refine s_get (C := RX9) (T := TX9) (N := 19) hx hb hts inX9 hown hK hS 0 rfl rfl 15 (by decide) (hts (.fieldLink RX9 234 "InnTurnedModel" "token" "I") (List.mem_of_getElem? (i := 1) rfl)) rfl rfl dX9_spells_1 ?_
  refine lv_iconst (v := (1 : Int32)) hx hb dX9_spells_4 (by decide) ?_
  refine lv_icmp_ne (tgt := 20) hx hb dX9_spells_5 (by decide) (fun c12 => ?_) (fun c12 => ?_)
  · replace h := s_no c12 h
    exact w_X9_spells_b20 C0 hend  p1 p2 p3 p4 p5 p6 p7 _ _ _ h hS (lv_sub hl [0, 1, 2, 3, 4, 5, 6, 7] rfl)
  replace h := s_yes c12 h
  refine lv_aload_n hx hb dX9_spells_8 rfl (lv_at hl 0 rfl) ?_
  refine s_get (C := RX9) (T := TX9) (N := 19) hx hb hts inX9 hown hK hS 0 rfl rfl 14 (by decide) (hts (.fieldLink RX9 231 "InnTurnedModel" "tokenLong" "I") (List.mem_of_getElem? (i := 2) rfl)) rfl rfl dX9_spells_9 ?_
  refine lv_iload_n hx hb dX9_spells_12 rfl (lv_at hl 1 rfl) ?_
  refine lv_icmp_ne (tgt := 20) hx hb dX9_spells_13 (by decide) (fun c13 => ?_) (fun c13 => ?_)
  · replace h := s_no c13 h
    exact w_X9_spells_b20 C0 hend  p1 p2 p3 p4 p5 p6 p7 _ _ _ h hS (lv_sub hl [0, 1, 2, 3, 4, 5, 6, 7] rfl)
  replace h := s_yes c13 h
  refine lv_iconst (v := (1 : Int32)) hx hb dX9_spells_16 (by decide) ?_
  refine lv_goto (tgt := 21) hx hb dX9_spells_17 (by decide) ?_
  exact w_X9_spells_b21 C0 hend  p1 p2 p3 p4 p5 p6 p7 (1 : Int32) _ _ _ h hS (lv_sub hl [0, 1, 2, 3, 4, 5, 6, 7] rfl)

-- InnTurnedModel.takes(III)Z
def wd_X9_takes (cI cB cZ : ClassId) (a_this : Nat) (a_all : Nat) (a_kept : Nat) (a_isKept : Nat) (a_refused : Nat) (a_hand : Nat) (a_outs : Nat) (a_order0 : Nat) (a_bestOrder : Nat) (a_tells : Nat) (a_bytes : Nat) (a_anew : Nat) (a_values : Nat)  (above : Int64) (below_ : Int64) (bytes : (Nat → Int32)) (bytesLong : Int32) (tokenAt : Int32) (tokenLong : Int32) (token : Int32) (value : Int32) (values : (Nat → Int32)) : va_W := [(a_this, .inr (6, [.ref a_all, .ref a_kept, .ref a_isKept, .ref a_refused, .long above, .long below_, .ref a_hand, .ref a_outs, .ref a_order0, .ref a_bestOrder, .ref a_tells, .ref a_bytes, .int bytesLong, .int tokenAt, .int tokenLong, .int token, .int value, .ref a_anew, .ref a_values])), (a_bytes, .inl (cI, 150, .inl bytes)), (a_values, .inl (cI, 2, .inl values))]
abbrev rm_X9_takes : Room := { frames := 4, cells := 0, slots := 0, locals := 89 }
set_option maxRecDepth 20000 in
theorem inX9_X9_takes : ∀ w ∈ u_ws RX9 TX9 19, w ∈ wsX9_takes := by decide +kernel
def f_X9_takes  (bytes : (Nat → Int32)) (bytesLong : Int32) (tokenAt : Int32) (tokenLong : Int32) (token : Int32) (value : Int32) (values : (Nat → Int32)) (p1 : Int32) (p2 : Int32) (p3 : Int32) : Option (Int32 × Int32 × Int32 × Int32 × Int32 × (Nat → Int32)) := (if token = (2 : Int32) then ((f_X9_in (Int32.toInt64 value) (Int32.toInt64 p2) (Int32.toInt64 p3)).bind fun q2 => (if q2 = 0 then some ((0 : Int32), tokenAt, tokenLong, token, value, values) else (if ¬ (p1 < 0 ∨ 2 ≤ (Int32.toNatClampNeg p1)) then ((f_X9_goBehind bytes bytesLong tokenAt tokenLong token value).bind fun q5 => some ((1 : Int32), q5.1, q5.2.1, q5.2.2.1, q5.2.2.2, (upd values (Int32.toNatClampNeg p1) value))) else none))) else some ((0 : Int32), tokenAt, tokenLong, token, value, values))
set_option maxHeartbeats 4000000 in
set_option maxRecDepth 100000 in
theorem c_X9_takes (l : Launch) (D : va_G) (cI cB cZ : ClassId) (a_this : Nat) (a_all : Nat) (a_kept : Nat) (a_isKept : Nat) (a_refused : Nat) (a_hand : Nat) (a_outs : Nat) (a_order0 : Nat) (a_bestOrder : Nat) (a_tells : Nat) (a_bytes : Nat) (a_anew : Nat) (a_values : Nat) (above : Int64) (below_ : Int64) (bytes : (Nat → Int32)) (bytesLong : Int32) (tokenAt : Int32) (tokenLong : Int32) (token : Int32) (value : Int32) (values : (Nat → Int32)) (p1 : Int32) (p2 : Int32) (p3 : Int32) (rv : Int32 × Int32 × Int32 × Int32 × Int32 × (Nat → Int32)) (sz : Nat) (hf : f_X9_takes bytes bytesLong tokenAt tokenLong token value values p1 p2 p3 = some rv) : Met l yX9_takes wsX9_takes rm_X9_takes (sPc D vwCl (s_tys cI cB cZ) [.ref a_this, .int p1, .int p2, .int p3] (wd_X9_takes cI cB cZ a_this a_all a_kept a_isKept a_refused a_hand a_outs a_order0 a_bestOrder a_tells a_bytes a_anew a_values above below_ bytes bytesLong tokenAt tokenLong token value values) sz) (sQi D vwCl (wd_X9_takes cI cB cZ a_this a_all a_kept a_isKept a_refused a_hand a_outs a_order0 a_bestOrder a_tells a_bytes a_anew a_values above below_ bytes bytesLong tokenAt tokenLong token value values) (wd_X9_takes cI cB cZ a_this a_all a_kept a_isKept a_refused a_hand a_outs a_order0 a_bestOrder a_tells a_bytes a_anew a_values above below_ bytes bytesLong rv.2.1 rv.2.2.1 rv.2.2.2.1 rv.2.2.2.2.1 rv.2.2.2.2.2) sz rv.1) 0 0 (va_A (wd_X9_takes cI cB cZ a_this a_all a_kept a_isKept a_refused a_hand a_outs a_order0 a_bestOrder a_tells a_bytes a_anew a_values above below_ bytes bytesLong tokenAt tokenLong token value values) sz) := by
  refine s_enter_z (cc := cX9_takes) (nL := 4) (r := rv.1) (by decide) rfl (Nat.le_of_ble_eq_true rfl) ?_
  intro p e s m args below meth c A Q C0 hend ls hl hS
  have h := hf
  clear hf
  replace hl : lv_has ls 4 [(0, .ref a_this), (1, .int p1), (2, .int p2), (3, .int p3)] := hl
  unfold f_X9_takes at h
  obtain ⟨hx, hb, hml, hown, hts, hK, hA⟩ := id C0
  have inX9 : ∀ w ∈ u_ws RX9 TX9 19, w ∈ wsX9_takes := inX9_X9_takes
  refine lv_aload_n hx hb dX9_takes_0 rfl (lv_at hl 0 rfl) ?_
  refine s_get (C := RX9) (T := TX9) (N := 19) hx hb hts inX9 hown hK hS 0 rfl rfl 15 (by decide) (hts (.fieldLink RX9 234 "InnTurnedModel" "token" "I") (List.mem_of_getElem? (i := 1) rfl)) rfl rfl dX9_takes_1 ?_
  refine lv_iconst (v := (2 : Int32)) hx hb dX9_takes_4 (by decide) ?_
  refine lv_icmp_ne (tgt := 23) hx hb dX9_takes_5 (by decide) (fun c1 => ?_) (fun c1 => ?_)
  · replace h := s_no c1 h
    refine lv_iconst (v := (0 : Int32)) hx hb dX9_takes_23 (by decide) ?_
    obtain rfl := Option.some.inj h
    exact hend _ _ _ _ dX9_takes_24 (Or.inl rfl) hS
  replace h := s_yes c1 h
  refine lv_aload_n hx hb dX9_takes_8 rfl (lv_at hl 0 rfl) ?_
  refine s_get (C := RX9) (T := TX9) (N := 19) hx hb hts inX9 hown hK hS 0 rfl rfl 16 (by decide) (hts (.fieldLink RX9 237 "InnTurnedModel" "value" "I") (List.mem_of_getElem? (i := 2) rfl)) rfl rfl dX9_takes_9 ?_
  refine lv_i2l (v := (Int32.toInt64 value)) hx hb dX9_takes_12 rfl ?_
  refine lv_iload_n hx hb dX9_takes_13 rfl (lv_at hl 2 rfl) ?_
  refine lv_i2l (v := (Int32.toInt64 p2)) hx hb dX9_takes_14 rfl ?_
  refine lv_iload_n hx hb dX9_takes_15 rfl (lv_at hl 3 rfl) ?_
  refine lv_i2l (v := (Int32.toInt64 p3)) hx hb dX9_takes_16 rfl ?_
  obtain ⟨q2, hq2, h⟩ := s_bind h
  refine u_calliS (r := q2) (As := [.long (Int32.toInt64 value), .long (Int32.toInt64 p2), .long (Int32.toInt64 p3)]) (rest := []) (wc := ([] : va_W)) hx hb hml hown hts hK hA hl hS (c_X9_in l D cI cB cZ (Int32.toInt64 value) (Int32.toInt64 p2) (Int32.toInt64 p3) _ _ hq2) (va_cwS 3 hts gX9_takes_X9_in rfl rfl rfl (by decide +kernel) ⟨Nat.le_of_ble_eq_true rfl, Nat.le_of_ble_eq_true rfl⟩) [] rfl rfl rfl rfl (Nat.le_of_ble_eq_true rfl) dX9_takes_17 (fun H locs hS => ?_)
  refine lv_if_ne (tgt := 25) hx hb dX9_takes_20 (by decide) (fun c3 => ?_) (fun c3 => ?_)
  · replace h := s_no c3 h
    refine lv_aload_n hx hb dX9_takes_25 rfl (lv_at hl 0 rfl) ?_
    refine s_get (C := RX9) (T := TX9) (N := 19) hx hb hts inX9 hown hK hS 0 rfl rfl 18 (by decide) (hts (.fieldLink RX9 48 "InnTurnedModel" "values" "[I") (List.mem_of_getElem? (i := 3) rfl)) rfl rfl dX9_takes_26 ?_
    refine lv_iload_n hx hb dX9_takes_29 rfl (lv_at hl 1 rfl) ?_
    refine lv_aload_n hx hb dX9_takes_30 rfl (lv_at hl 0 rfl) ?_
    refine s_get (C := RX9) (T := TX9) (N := 19) hx hb hts inX9 hown hK hS 0 rfl rfl 16 (by decide) (hts (.fieldLink RX9 237 "InnTurnedModel" "value" "I") (List.mem_of_getElem? (i := 2) rfl)) rfl rfl dX9_takes_31 ?_
    obtain ⟨g4, h⟩ := s_guard h
    refine s_iast (ws' := (wd_X9_takes cI cB cZ a_this a_all a_kept a_isKept a_refused a_hand a_outs a_order0 a_bestOrder a_tells a_bytes a_anew a_values above below_ bytes bytesLong tokenAt tokenLong token value (upd values (Int32.toNatClampNeg p1) value))) hx hb hK hS 2 rfl rfl g4 rfl dX9_takes_34 (fun H locs hS => ?_)
    refine lv_aload_n hx hb dX9_takes_35 rfl (lv_at hl 0 rfl) ?_
    obtain ⟨q5, hq5, h⟩ := s_bind h
    refine r_callvV (As := []) (rest := []) (wc := (wd_X9_goBehind cI cB cZ a_this a_all a_kept a_isKept a_refused a_hand a_outs a_order0 a_bestOrder a_tells a_bytes a_anew a_values above below_ bytes bytesLong tokenAt tokenLong token value)) (w1 := (wd_X9_goBehind cI cB cZ a_this a_all a_kept a_isKept a_refused a_hand a_outs a_order0 a_bestOrder a_tells a_bytes a_anew a_values above below_ bytes bytesLong q5.1 q5.2.1 q5.2.2.1 q5.2.2.2)) (ws' := (wd_X9_takes cI cB cZ a_this a_all a_kept a_isKept a_refused a_hand a_outs a_order0 a_bestOrder a_tells a_bytes a_anew a_values above below_ bytes bytesLong q5.1 q5.2.1 q5.2.2.1 q5.2.2.2 (upd values (Int32.toNatClampNeg p1) value))) hx hb hml hown hts hK hA hl hS (c_X9_goBehind l D cI cB cZ a_this a_all a_kept a_isKept a_refused a_hand a_outs a_order0 a_bestOrder a_tells a_bytes a_anew a_values above below_ bytes bytesLong tokenAt tokenLong token value _ _ hq5) (cwV 0 hts gX9_takes_X9_goBehind rfl rfl rfl (by decide +kernel) ⟨Nat.le_of_ble_eq_true rfl, Nat.le_of_ble_eq_true rfl⟩) 0 rfl rfl [0, 1] rfl rfl rfl [.inr 0, .inr 1, .inl 2] rfl rfl rfl rfl (Nat.le_of_ble_eq_true rfl) dX9_takes_36 (fun H locs hS => ?_)
    refine lv_iconst (v := (1 : Int32)) hx hb dX9_takes_39 (by decide) ?_
    obtain rfl := Option.some.inj h
    exact hend _ _ _ _ dX9_takes_40 (Or.inr rfl) hS
  replace h := s_yes c3 h
  refine lv_iconst (v := (0 : Int32)) hx hb dX9_takes_23 (by decide) ?_
  obtain rfl := Option.some.inj h
  exact hend _ _ _ _ dX9_takes_24 (Or.inl rfl) hS

-- InnTurnedModel.takesWet()Z
def wd_X9_takesWet (cI cB cZ : ClassId) (a_this : Nat) (a_all : Nat) (a_kept : Nat) (a_isKept : Nat) (a_refused : Nat) (a_hand : Nat) (a_outs : Nat) (a_order0 : Nat) (a_bestOrder : Nat) (a_tells : Nat) (a_bytes : Nat) (a_anew : Nat) (a_values : Nat)  (above : Int64) (below_ : Int64) (bytes : (Nat → Int32)) (bytesLong : Int32) (tokenAt : Int32) (tokenLong : Int32) (token : Int32) (value : Int32) (anew : (Nat → Int32)) (values : (Nat → Int32)) : va_W := [(a_this, .inr (6, [.ref a_all, .ref a_kept, .ref a_isKept, .ref a_refused, .long above, .long below_, .ref a_hand, .ref a_outs, .ref a_order0, .ref a_bestOrder, .ref a_tells, .ref a_bytes, .int bytesLong, .int tokenAt, .int tokenLong, .int token, .int value, .ref a_anew, .ref a_values])), (a_bytes, .inl (cI, 150, .inl bytes)), (a_anew, .inl (cI, 106, .inl anew)), (a_values, .inl (cI, 2, .inl values))]
abbrev rm_X9_takesWet : Room := { frames := 5, cells := 0, slots := 0, locals := 112 }
set_option maxRecDepth 20000 in
theorem inX9_X9_takesWet : ∀ w ∈ u_ws RX9 TX9 19, w ∈ wsX9_takesWet := by decide +kernel
def f_X9_takesWet_b18 (k_b6 : Int32 → Int32 → Int32 → Int32 → (Nat → Int32) → (Nat → Int32) → Int32 → Option (Int32 × Int32 × Int32 × Int32 × Int32 × (Nat → Int32) × (Nat → Int32)))  (bytes : (Nat → Int32)) (bytesLong : Int32) (tokenAt : Int32) (tokenLong : Int32) (token : Int32) (value : Int32) (anew : (Nat → Int32)) (values : (Nat → Int32)) (l1 : Int32) : Option (Int32 × Int32 × Int32 × Int32 × Int32 × (Nat → Int32) × (Nat → Int32)) := (if l1 = (6 : Int32) then some ((0 : Int32), tokenAt, tokenLong, token, value, anew, values) else ((f_X9_takes bytes bytesLong tokenAt tokenLong token value values (0 : Int32) (0 : Int32) (4 : Int32)).bind fun q2 => (if q2.1 = 0 then some ((0 : Int32), q2.2.1, q2.2.2.1, q2.2.2.2.1, q2.2.2.2.2.1, anew, q2.2.2.2.2.2) else (if ¬ (((25 : Int32) + l1) < 0 ∨ 106 ≤ (Int32.toNatClampNeg ((25 : Int32) + l1))) then k_b6 q2.2.1 q2.2.2.1 q2.2.2.2.1 q2.2.2.2.2.1 (upd anew (Int32.toNatClampNeg ((25 : Int32) + l1)) (q2.2.2.2.2.2 (Int32.toNatClampNeg (0 : Int32)))) q2.2.2.2.2.2 (l1 + (1 : Int32)) else none))))
set_option maxHeartbeats 4000000 in
set_option maxRecDepth 100000 in
theorem w_X9_takesWet_b18 {p : Program} {l : Launch} {e : Env} {s : State} {m : MethodId} {args : Array Value} {below : List Frame} {meth : Method} {c : Code} {A : Nat → Prop} {Q : State → Prop} {D : va_G} {cI cB cZ : ClassId} {a_this a_all a_kept a_isKept a_refused a_hand a_outs a_order0 a_bestOrder a_tells a_bytes a_anew a_values : Nat} {above : Int64} {below_ : Int64} {bytes : (Nat → Int32)} {bytesLong : Int32} (C0 : Cx p s m args c cX9_takesWet 2 RX9 wsX9_takesWet D (s_tys cI cB cZ) A) {rv : Int32 × Int32 × Int32 × Int32 × Int32 × (Nat → Int32) × (Nat → Int32)} (hend : ∀ (pc : Nat) (H : Heap) (locs : List Loc) (ls : Array Slot), decode cX9_takesWet pc = .ok (.ireturn, 1) → (rv.1 = 0 ∨ rv.1 = 1) → sS D vwCl A s.heap (wd_X9_takesWet cI cB cZ a_this a_all a_kept a_isKept a_refused a_hand a_outs a_order0 a_bestOrder a_tells a_bytes a_anew a_values above below_ bytes bytesLong rv.2.1 rv.2.2.1 rv.2.2.2.1 rv.2.2.2.2.1 rv.2.2.2.2.2.1 rv.2.2.2.2.2.2) H locs → W p l e rm_X9_takesWet s m args below meth c H locs 0 0 Q (F0 m pc ls [.int rv.1])) (k_b6 : Int32 → Int32 → Int32 → Int32 → (Nat → Int32) → (Nat → Int32) → Int32 → Option (Int32 × Int32 × Int32 × Int32 × Int32 × (Nat → Int32) × (Nat → Int32))) (hk_b6 : ∀ (tokenAt : Int32) (tokenLong : Int32) (token : Int32) (value : Int32) (anew : (Nat → Int32)) (values : (Nat → Int32)) (l1 : Int32) (H : Heap) (locs : List Loc) (ls : Array Slot), k_b6 tokenAt tokenLong token value anew values l1 = some rv → sS D vwCl A s.heap (wd_X9_takesWet cI cB cZ a_this a_all a_kept a_isKept a_refused a_hand a_outs a_order0 a_bestOrder a_tells a_bytes a_anew a_values above below_ bytes bytesLong tokenAt tokenLong token value anew values) H locs → lv_has ls 2 [(0, .ref a_this), (1, .int l1)] → W p l e rm_X9_takesWet s m args below meth c H locs 0 0 Q (F0 m 6 ls [])) : ∀ (tokenAt : Int32) (tokenLong : Int32) (token : Int32) (value : Int32) (anew : (Nat → Int32)) (values : (Nat → Int32)) (l1 : Int32) (H : Heap) (locs : List Loc) (ls : Array Slot), f_X9_takesWet_b18 k_b6 bytes bytesLong tokenAt tokenLong token value anew values l1 = some rv → sS D vwCl A s.heap (wd_X9_takesWet cI cB cZ a_this a_all a_kept a_isKept a_refused a_hand a_outs a_order0 a_bestOrder a_tells a_bytes a_anew a_values above below_ bytes bytesLong tokenAt tokenLong token value anew values) H locs → lv_has ls 2 [(0, .ref a_this), (1, .int l1)] → W p l e rm_X9_takesWet s m args below meth c H locs 0 0 Q (F0 m 18 ls []) := by
  obtain ⟨hx, hb, hml, hown, hts, hK, hA⟩ := id C0
  have inX9 : ∀ w ∈ u_ws RX9 TX9 19, w ∈ wsX9_takesWet := inX9_X9_takesWet
  intro tokenAt tokenLong token value anew values l1 H locs ls h hS hl
  unfold f_X9_takesWet_b18 at h
  refine lv_iload_n hx hb dX9_takesWet_18 rfl (lv_at hl 1 rfl) ?_
  refine lv_bipush (v := (6 : Int32)) hx hb dX9_takesWet_19 (by decide) ?_
  refine lv_icmp_eq (tgt := 34) hx hb dX9_takesWet_21 (by decide) (fun c1 => ?_) (fun c1 => ?_)
  · replace h := s_yes c1 h
    refine lv_iconst (v := (0 : Int32)) hx hb dX9_takesWet_34 (by decide) ?_
    obtain rfl := Option.some.inj h
    exact hend _ _ _ _ dX9_takesWet_35 (Or.inl rfl) hS
  replace h := s_no c1 h
  refine lv_aload_n hx hb dX9_takesWet_24 rfl (lv_at hl 0 rfl) ?_
  refine lv_iconst (v := (0 : Int32)) hx hb dX9_takesWet_25 (by decide) ?_
  refine lv_iconst (v := (0 : Int32)) hx hb dX9_takesWet_26 (by decide) ?_
  refine lv_iconst (v := (4 : Int32)) hx hb dX9_takesWet_27 (by decide) ?_
  obtain ⟨q2, hq2, h⟩ := s_bind h
  refine r_calliV (r := q2.1) (As := [.int (0 : Int32), .int (0 : Int32), .int (4 : Int32)]) (rest := []) (wc := (wd_X9_takes cI cB cZ a_this a_all a_kept a_isKept a_refused a_hand a_outs a_order0 a_bestOrder a_tells a_bytes a_anew a_values above below_ bytes bytesLong tokenAt tokenLong token value values)) (w1 := (wd_X9_takes cI cB cZ a_this a_all a_kept a_isKept a_refused a_hand a_outs a_order0 a_bestOrder a_tells a_bytes a_anew a_values above below_ bytes bytesLong q2.2.1 q2.2.2.1 q2.2.2.2.1 q2.2.2.2.2.1 q2.2.2.2.2.2)) (ws' := (wd_X9_takesWet cI cB cZ a_this a_all a_kept a_isKept a_refused a_hand a_outs a_order0 a_bestOrder a_tells a_bytes a_anew a_values above below_ bytes bytesLong q2.2.1 q2.2.2.1 q2.2.2.2.1 q2.2.2.2.2.1 anew q2.2.2.2.2.2)) hx hb hml hown hts hK hA hl hS (c_X9_takes l D cI cB cZ a_this a_all a_kept a_isKept a_refused a_hand a_outs a_order0 a_bestOrder a_tells a_bytes a_anew a_values above below_ bytes bytesLong tokenAt tokenLong token value values (0 : Int32) (0 : Int32) (4 : Int32) _ _ hq2) (cwV 3 hts gX9_takesWet_X9_takes rfl rfl rfl (by decide +kernel) ⟨Nat.le_of_ble_eq_true rfl, Nat.le_of_ble_eq_true rfl⟩) 0 rfl rfl [0, 1, 3] rfl rfl rfl [.inr 0, .inr 1, .inl 2, .inr 2] rfl rfl rfl rfl (Nat.le_of_ble_eq_true rfl) dX9_takesWet_28 (fun H locs hS => ?_)
  refine lv_if_ne (tgt := 36) hx hb dX9_takesWet_31 (by decide) (fun c3 => ?_) (fun c3 => ?_)
  · replace h := s_no c3 h
    refine lv_aload_n hx hb dX9_takesWet_36 rfl (lv_at hl 0 rfl) ?_
    refine s_get (C := RX9) (T := TX9) (N := 19) hx hb hts inX9 hown hK hS 0 rfl rfl 17 (by decide) (hts (.fieldLink RX9 45 "InnTurnedModel" "anew" "[I") (List.mem_of_getElem? (i := 2) rfl)) rfl rfl dX9_takesWet_37 ?_
    refine lv_bipush (v := (25 : Int32)) hx hb dX9_takesWet_40 (by decide) ?_
    refine lv_iload_n hx hb dX9_takesWet_42 rfl (lv_at hl 1 rfl) ?_
    refine lv_iadd hx hb dX9_takesWet_43 ?_
    refine lv_aload_n hx hb dX9_takesWet_44 rfl (lv_at hl 0 rfl) ?_
    refine s_get (C := RX9) (T := TX9) (N := 19) hx hb hts inX9 hown hK hS 0 rfl rfl 18 (by decide) (hts (.fieldLink RX9 48 "InnTurnedModel" "values" "[I") (List.mem_of_getElem? (i := 3) rfl)) rfl rfl dX9_takesWet_45 ?_
    refine lv_iconst (v := (0 : Int32)) hx hb dX9_takesWet_48 (by decide) ?_
    refine s_iald hx hb hK hS 3 rfl rfl (by decide) dX9_takesWet_49 ?_
    obtain ⟨g4, h⟩ := s_guard h
    refine s_iast (ws' := (wd_X9_takesWet cI cB cZ a_this a_all a_kept a_isKept a_refused a_hand a_outs a_order0 a_bestOrder a_tells a_bytes a_anew a_values above below_ bytes bytesLong q2.2.1 q2.2.2.1 q2.2.2.2.1 q2.2.2.2.2.1 (upd anew (Int32.toNatClampNeg ((25 : Int32) + l1)) (q2.2.2.2.2.2 (Int32.toNatClampNeg (0 : Int32)))) q2.2.2.2.2.2)) hx hb hK hS 2 rfl rfl g4 rfl dX9_takesWet_50 (fun H locs hS => ?_)
    refine lv_iinc (v := (l1 + (1 : Int32))) (lv' := [(1, .int (l1 + (1 : Int32))), (0, .ref a_this)]) hx hb dX9_takesWet_51 hl (k := 1) rfl rfl (by decide) rfl (fun ls hl => ?_)
    refine lv_goto (tgt := 6) hx hb dX9_takesWet_54 (by decide) ?_
    exact hk_b6 q2.2.1 q2.2.2.1 q2.2.2.2.1 q2.2.2.2.2.1 (upd anew (Int32.toNatClampNeg ((25 : Int32) + l1)) (q2.2.2.2.2.2 (Int32.toNatClampNeg (0 : Int32)))) q2.2.2.2.2.2 (l1 + (1 : Int32)) _ _ _ h hS (lv_sub hl [1, 0] rfl)
  replace h := s_yes c3 h
  refine lv_iconst (v := (0 : Int32)) hx hb dX9_takesWet_34 (by decide) ?_
  obtain rfl := Option.some.inj h
  exact hend _ _ _ _ dX9_takesWet_35 (Or.inl rfl) hS
def f_X9_takesWet_b6  (bytes : (Nat → Int32)) (bytesLong : Int32) : Nat → Int32 → Int32 → Int32 → Int32 → (Nat → Int32) → (Nat → Int32) → Int32 → Option (Int32 × Int32 × Int32 × Int32 × Int32 × (Nat → Int32) × (Nat → Int32))
  | 0, _, _, _, _, _, _, _ => none
  | fu + 1, tokenAt, tokenLong, token, value, anew, values, l1 => (if l1 = 0 then f_X9_takesWet_b18 (f_X9_takesWet_b6 bytes bytesLong fu) bytes bytesLong tokenAt tokenLong token value anew values l1 else (if token = (3 : Int32) then some ((1 : Int32), tokenAt, tokenLong, token, value, anew, values) else f_X9_takesWet_b18 (f_X9_takesWet_b6 bytes bytesLong fu) bytes bytesLong tokenAt tokenLong token value anew values l1))
set_option maxHeartbeats 4000000 in
set_option maxRecDepth 100000 in
theorem w_X9_takesWet_b6 {p : Program} {l : Launch} {e : Env} {s : State} {m : MethodId} {args : Array Value} {below : List Frame} {meth : Method} {c : Code} {A : Nat → Prop} {Q : State → Prop} {D : va_G} {cI cB cZ : ClassId} {a_this a_all a_kept a_isKept a_refused a_hand a_outs a_order0 a_bestOrder a_tells a_bytes a_anew a_values : Nat} {above : Int64} {below_ : Int64} {bytes : (Nat → Int32)} {bytesLong : Int32} (C0 : Cx p s m args c cX9_takesWet 2 RX9 wsX9_takesWet D (s_tys cI cB cZ) A) {rv : Int32 × Int32 × Int32 × Int32 × Int32 × (Nat → Int32) × (Nat → Int32)} (hend : ∀ (pc : Nat) (H : Heap) (locs : List Loc) (ls : Array Slot), decode cX9_takesWet pc = .ok (.ireturn, 1) → (rv.1 = 0 ∨ rv.1 = 1) → sS D vwCl A s.heap (wd_X9_takesWet cI cB cZ a_this a_all a_kept a_isKept a_refused a_hand a_outs a_order0 a_bestOrder a_tells a_bytes a_anew a_values above below_ bytes bytesLong rv.2.1 rv.2.2.1 rv.2.2.2.1 rv.2.2.2.2.1 rv.2.2.2.2.2.1 rv.2.2.2.2.2.2) H locs → W p l e rm_X9_takesWet s m args below meth c H locs 0 0 Q (F0 m pc ls [.int rv.1])) : ∀ (fu : Nat) (tokenAt : Int32) (tokenLong : Int32) (token : Int32) (value : Int32) (anew : (Nat → Int32)) (values : (Nat → Int32)) (l1 : Int32) (H : Heap) (locs : List Loc) (ls : Array Slot), f_X9_takesWet_b6 bytes bytesLong fu tokenAt tokenLong token value anew values l1 = some rv → sS D vwCl A s.heap (wd_X9_takesWet cI cB cZ a_this a_all a_kept a_isKept a_refused a_hand a_outs a_order0 a_bestOrder a_tells a_bytes a_anew a_values above below_ bytes bytesLong tokenAt tokenLong token value anew values) H locs → lv_has ls 2 [(0, .ref a_this), (1, .int l1)] → W p l e rm_X9_takesWet s m args below meth c H locs 0 0 Q (F0 m 6 ls []) := by
  obtain ⟨hx, hb, hml, hown, hts, hK, hA⟩ := id C0
  have inX9 : ∀ w ∈ u_ws RX9 TX9 19, w ∈ wsX9_takesWet := inX9_X9_takesWet
  intro fu
  induction fu with
  | zero => intro tokenAt tokenLong token value anew values l1 H locs ls h; cases h
  | succ fu ih =>
    intro tokenAt tokenLong token value anew values l1 H locs ls h hS hl
    rw [f_X9_takesWet_b6] at h
    refine lv_iload_n hx hb dX9_takesWet_6 rfl (lv_at hl 1 rfl) ?_
    refine lv_if_eq (tgt := 18) hx hb dX9_takesWet_7 (by decide) (fun c5 => ?_) (fun c5 => ?_)
    · replace h := s_yes c5 h
      exact w_X9_takesWet_b18 C0 hend (f_X9_takesWet_b6 bytes bytesLong fu) ih tokenAt tokenLong token value anew values l1 _ _ _ h hS (lv_sub hl [0, 1] rfl)
    replace h := s_no c5 h
    refine lv_aload_n hx hb dX9_takesWet_10 rfl (lv_at hl 0 rfl) ?_
    refine s_get (C := RX9) (T := TX9) (N := 19) hx hb hts inX9 hown hK hS 0 rfl rfl 15 (by decide) (hts (.fieldLink RX9 234 "InnTurnedModel" "token" "I") (List.mem_of_getElem? (i := 1) rfl)) rfl rfl dX9_takesWet_11 ?_
    refine lv_iconst (v := (3 : Int32)) hx hb dX9_takesWet_14 (by decide) ?_
    refine lv_icmp_eq (tgt := 57) hx hb dX9_takesWet_15 (by decide) (fun c6 => ?_) (fun c6 => ?_)
    · replace h := s_yes c6 h
      refine lv_iconst (v := (1 : Int32)) hx hb dX9_takesWet_57 (by decide) ?_
      obtain rfl := Option.some.inj h
      exact hend _ _ _ _ dX9_takesWet_58 (Or.inr rfl) hS
    replace h := s_no c6 h
    exact w_X9_takesWet_b18 C0 hend (f_X9_takesWet_b6 bytes bytesLong fu) ih tokenAt tokenLong token value anew values l1 _ _ _ h hS (lv_sub hl [0, 1] rfl)
def f_X9_takesWet  (bytes : (Nat → Int32)) (bytesLong : Int32) (tokenAt : Int32) (tokenLong : Int32) (token : Int32) (value : Int32) (anew : (Nat → Int32)) (values : (Nat → Int32)) : Option (Int32 × Int32 × Int32 × Int32 × Int32 × (Nat → Int32) × (Nat → Int32)) := ((f_X9_goBehind bytes bytesLong tokenAt tokenLong token value).bind fun q7 => f_X9_takesWet_b6  bytes bytesLong s_fuel q7.1 q7.2.1 q7.2.2.1 q7.2.2.2 anew values (0 : Int32))
set_option maxHeartbeats 4000000 in
set_option maxRecDepth 100000 in
theorem c_X9_takesWet (l : Launch) (D : va_G) (cI cB cZ : ClassId) (a_this : Nat) (a_all : Nat) (a_kept : Nat) (a_isKept : Nat) (a_refused : Nat) (a_hand : Nat) (a_outs : Nat) (a_order0 : Nat) (a_bestOrder : Nat) (a_tells : Nat) (a_bytes : Nat) (a_anew : Nat) (a_values : Nat) (above : Int64) (below_ : Int64) (bytes : (Nat → Int32)) (bytesLong : Int32) (tokenAt : Int32) (tokenLong : Int32) (token : Int32) (value : Int32) (anew : (Nat → Int32)) (values : (Nat → Int32)) (rv : Int32 × Int32 × Int32 × Int32 × Int32 × (Nat → Int32) × (Nat → Int32)) (sz : Nat) (hf : f_X9_takesWet bytes bytesLong tokenAt tokenLong token value anew values = some rv) : Met l yX9_takesWet wsX9_takesWet rm_X9_takesWet (sPc D vwCl (s_tys cI cB cZ) [.ref a_this] (wd_X9_takesWet cI cB cZ a_this a_all a_kept a_isKept a_refused a_hand a_outs a_order0 a_bestOrder a_tells a_bytes a_anew a_values above below_ bytes bytesLong tokenAt tokenLong token value anew values) sz) (sQi D vwCl (wd_X9_takesWet cI cB cZ a_this a_all a_kept a_isKept a_refused a_hand a_outs a_order0 a_bestOrder a_tells a_bytes a_anew a_values above below_ bytes bytesLong tokenAt tokenLong token value anew values) (wd_X9_takesWet cI cB cZ a_this a_all a_kept a_isKept a_refused a_hand a_outs a_order0 a_bestOrder a_tells a_bytes a_anew a_values above below_ bytes bytesLong rv.2.1 rv.2.2.1 rv.2.2.2.1 rv.2.2.2.2.1 rv.2.2.2.2.2.1 rv.2.2.2.2.2.2) sz rv.1) 0 0 (va_A (wd_X9_takesWet cI cB cZ a_this a_all a_kept a_isKept a_refused a_hand a_outs a_order0 a_bestOrder a_tells a_bytes a_anew a_values above below_ bytes bytesLong tokenAt tokenLong token value anew values) sz) := by
  refine s_enter_z (cc := cX9_takesWet) (nL := 2) (r := rv.1) (by decide) rfl (Nat.le_of_ble_eq_true rfl) ?_
  intro p e s m args below meth c A Q C0 hend ls hl hS
  have h := hf
  clear hf
  replace hl : lv_has ls 2 [(0, .ref a_this)] := hl
  unfold f_X9_takesWet at h
  obtain ⟨hx, hb, hml, hown, hts, hK, hA⟩ := id C0
  have inX9 : ∀ w ∈ u_ws RX9 TX9 19, w ∈ wsX9_takesWet := inX9_X9_takesWet
  refine lv_iconst (v := (0 : Int32)) hx hb dX9_takesWet_0 (by decide) ?_
  refine lv_istore_n (lv' := [(1, .int (0 : Int32)), (0, .ref a_this)]) hx hb dX9_takesWet_1 rfl hl (by decide) rfl (fun ls hl => ?_)
  refine lv_aload_n hx hb dX9_takesWet_2 rfl (lv_at hl 1 rfl) ?_
  obtain ⟨q7, hq7, h⟩ := s_bind h
  refine r_callvV (As := []) (rest := []) (wc := (wd_X9_goBehind cI cB cZ a_this a_all a_kept a_isKept a_refused a_hand a_outs a_order0 a_bestOrder a_tells a_bytes a_anew a_values above below_ bytes bytesLong tokenAt tokenLong token value)) (w1 := (wd_X9_goBehind cI cB cZ a_this a_all a_kept a_isKept a_refused a_hand a_outs a_order0 a_bestOrder a_tells a_bytes a_anew a_values above below_ bytes bytesLong q7.1 q7.2.1 q7.2.2.1 q7.2.2.2)) (ws' := (wd_X9_takesWet cI cB cZ a_this a_all a_kept a_isKept a_refused a_hand a_outs a_order0 a_bestOrder a_tells a_bytes a_anew a_values above below_ bytes bytesLong q7.1 q7.2.1 q7.2.2.1 q7.2.2.2 anew values)) hx hb hml hown hts hK hA hl hS (c_X9_goBehind l D cI cB cZ a_this a_all a_kept a_isKept a_refused a_hand a_outs a_order0 a_bestOrder a_tells a_bytes a_anew a_values above below_ bytes bytesLong tokenAt tokenLong token value _ _ hq7) (cwV 0 hts gX9_takesWet_X9_goBehind rfl rfl rfl (by decide +kernel) ⟨Nat.le_of_ble_eq_true rfl, Nat.le_of_ble_eq_true rfl⟩) 0 rfl rfl [0, 1] rfl rfl rfl [.inr 0, .inr 1, .inl 2, .inl 3] rfl rfl rfl rfl (Nat.le_of_ble_eq_true rfl) dX9_takesWet_3 (fun H locs hS => ?_)
  exact w_X9_takesWet_b6 C0 hend  s_fuel q7.1 q7.2.1 q7.2.2.1 q7.2.2.2 anew values (0 : Int32) _ _ _ h hS (lv_sub hl [1, 0] rfl)

-- InnTurnedModel.takesOne()Z
def wd_X9_takesOne (cI cB cZ : ClassId) (a_this : Nat) (a_all : Nat) (a_kept : Nat) (a_isKept : Nat) (a_refused : Nat) (a_hand : Nat) (a_outs : Nat) (a_order0 : Nat) (a_bestOrder : Nat) (a_tells : Nat) (a_bytes : Nat) (a_anew : Nat) (a_values : Nat)  (above : Int64) (below_ : Int64) (bytes : (Nat → Int32)) (bytesLong : Int32) (tokenAt : Int32) (tokenLong : Int32) (token : Int32) (value : Int32) (anew : (Nat → Int32)) (values : (Nat → Int32)) : va_W := [(a_this, .inr (6, [.ref a_all, .ref a_kept, .ref a_isKept, .ref a_refused, .long above, .long below_, .ref a_hand, .ref a_outs, .ref a_order0, .ref a_bestOrder, .ref a_tells, .ref a_bytes, .int bytesLong, .int tokenAt, .int tokenLong, .int token, .int value, .ref a_anew, .ref a_values])), (a_bytes, .inl (cI, 150, .inl bytes)), (a_anew, .inl (cI, 106, .inl anew)), (a_values, .inl (cI, 2, .inl values))]
abbrev rm_X9_takesOne : Room := { frames := 5, cells := 0, slots := 0, locals := 112 }
set_option maxRecDepth 20000 in
theorem inX9_X9_takesOne : ∀ w ∈ u_ws RX9 TX9 19, w ∈ wsX9_takesOne := by decide +kernel
def f_X9_takesOne  (bytes : (Nat → Int32)) (bytesLong : Int32) (tokenAt : Int32) (tokenLong : Int32) (token : Int32) (value : Int32) (anew : (Nat → Int32)) (values : (Nat → Int32)) : Option (Int32 × Int32 × Int32 × Int32 × Int32 × (Nat → Int32) × (Nat → Int32)) := (if (anew (Int32.toNatClampNeg (0 : Int32))) = (7 : Int32) then some ((0 : Int32), tokenAt, tokenLong, token, value, anew, values) else ((f_X9_goBehind bytes bytesLong tokenAt tokenLong token value).bind fun q2 => ((f_X9_takes bytes bytesLong q2.1 q2.2.1 q2.2.2.1 q2.2.2.2 values (0 : Int32) (0 : Int32) (5 : Int32)).bind fun q3 => (if q3.1 = 0 then some ((0 : Int32), q3.2.1, q3.2.2.1, q3.2.2.2.1, q3.2.2.2.2.1, anew, q3.2.2.2.2.2) else ((f_X9_takes bytes bytesLong q3.2.1 q3.2.2.1 q3.2.2.2.1 q3.2.2.2.2.1 q3.2.2.2.2.2 (1 : Int32) (0 : Int32) (9 : Int32)).bind fun q5 => (if q5.1 = 0 then some ((0 : Int32), q5.2.1, q5.2.2.1, q5.2.2.2.1, q5.2.2.2.2.1, anew, q5.2.2.2.2.2) else ((f_X9_layOne 106 anew (q5.2.2.2.2.2 (Int32.toNatClampNeg (0 : Int32))) (q5.2.2.2.2.2 (Int32.toNatClampNeg (1 : Int32)))).bind fun q7 => some ((1 : Int32), q5.2.1, q5.2.2.1, q5.2.2.2.1, q5.2.2.2.2.1, q7, q5.2.2.2.2.2))))))))
set_option maxHeartbeats 4000000 in
set_option maxRecDepth 100000 in
theorem c_X9_takesOne (l : Launch) (D : va_G) (cI cB cZ : ClassId) (a_this : Nat) (a_all : Nat) (a_kept : Nat) (a_isKept : Nat) (a_refused : Nat) (a_hand : Nat) (a_outs : Nat) (a_order0 : Nat) (a_bestOrder : Nat) (a_tells : Nat) (a_bytes : Nat) (a_anew : Nat) (a_values : Nat) (above : Int64) (below_ : Int64) (bytes : (Nat → Int32)) (bytesLong : Int32) (tokenAt : Int32) (tokenLong : Int32) (token : Int32) (value : Int32) (anew : (Nat → Int32)) (values : (Nat → Int32)) (rv : Int32 × Int32 × Int32 × Int32 × Int32 × (Nat → Int32) × (Nat → Int32)) (sz : Nat) (hf : f_X9_takesOne bytes bytesLong tokenAt tokenLong token value anew values = some rv) : Met l yX9_takesOne wsX9_takesOne rm_X9_takesOne (sPc D vwCl (s_tys cI cB cZ) [.ref a_this] (wd_X9_takesOne cI cB cZ a_this a_all a_kept a_isKept a_refused a_hand a_outs a_order0 a_bestOrder a_tells a_bytes a_anew a_values above below_ bytes bytesLong tokenAt tokenLong token value anew values) sz) (sQi D vwCl (wd_X9_takesOne cI cB cZ a_this a_all a_kept a_isKept a_refused a_hand a_outs a_order0 a_bestOrder a_tells a_bytes a_anew a_values above below_ bytes bytesLong tokenAt tokenLong token value anew values) (wd_X9_takesOne cI cB cZ a_this a_all a_kept a_isKept a_refused a_hand a_outs a_order0 a_bestOrder a_tells a_bytes a_anew a_values above below_ bytes bytesLong rv.2.1 rv.2.2.1 rv.2.2.2.1 rv.2.2.2.2.1 rv.2.2.2.2.2.1 rv.2.2.2.2.2.2) sz rv.1) 0 0 (va_A (wd_X9_takesOne cI cB cZ a_this a_all a_kept a_isKept a_refused a_hand a_outs a_order0 a_bestOrder a_tells a_bytes a_anew a_values above below_ bytes bytesLong tokenAt tokenLong token value anew values) sz) := by
  refine s_enter_z (cc := cX9_takesOne) (nL := 1) (r := rv.1) (by decide) rfl (Nat.le_of_ble_eq_true rfl) ?_
  intro p e s m args below meth c A Q C0 hend ls hl hS
  have h := hf
  clear hf
  replace hl : lv_has ls 1 [(0, .ref a_this)] := hl
  unfold f_X9_takesOne at h
  obtain ⟨hx, hb, hml, hown, hts, hK, hA⟩ := id C0
  have inX9 : ∀ w ∈ u_ws RX9 TX9 19, w ∈ wsX9_takesOne := inX9_X9_takesOne
  refine lv_aload_n hx hb dX9_takesOne_0 rfl (lv_at hl 0 rfl) ?_
  refine s_get (C := RX9) (T := TX9) (N := 19) hx hb hts inX9 hown hK hS 0 rfl rfl 17 (by decide) (hts (.fieldLink RX9 45 "InnTurnedModel" "anew" "[I") (List.mem_of_getElem? (i := 1) rfl)) rfl rfl dX9_takesOne_1 ?_
  refine lv_iconst (v := (0 : Int32)) hx hb dX9_takesOne_4 (by decide) ?_
  refine s_iald hx hb hK hS 2 rfl rfl (by decide) dX9_takesOne_5 ?_
  refine lv_bipush (v := (7 : Int32)) hx hb dX9_takesOne_6 (by decide) ?_
  refine lv_icmp_ne (tgt := 13) hx hb dX9_takesOne_8 (by decide) (fun c1 => ?_) (fun c1 => ?_)
  · replace h := s_no c1 h
    refine lv_aload_n hx hb dX9_takesOne_13 rfl (lv_at hl 0 rfl) ?_
    obtain ⟨q2, hq2, h⟩ := s_bind h
    refine r_callvV (As := []) (rest := []) (wc := (wd_X9_goBehind cI cB cZ a_this a_all a_kept a_isKept a_refused a_hand a_outs a_order0 a_bestOrder a_tells a_bytes a_anew a_values above below_ bytes bytesLong tokenAt tokenLong token value)) (w1 := (wd_X9_goBehind cI cB cZ a_this a_all a_kept a_isKept a_refused a_hand a_outs a_order0 a_bestOrder a_tells a_bytes a_anew a_values above below_ bytes bytesLong q2.1 q2.2.1 q2.2.2.1 q2.2.2.2)) (ws' := (wd_X9_takesOne cI cB cZ a_this a_all a_kept a_isKept a_refused a_hand a_outs a_order0 a_bestOrder a_tells a_bytes a_anew a_values above below_ bytes bytesLong q2.1 q2.2.1 q2.2.2.1 q2.2.2.2 anew values)) hx hb hml hown hts hK hA hl hS (c_X9_goBehind l D cI cB cZ a_this a_all a_kept a_isKept a_refused a_hand a_outs a_order0 a_bestOrder a_tells a_bytes a_anew a_values above below_ bytes bytesLong tokenAt tokenLong token value _ _ hq2) (cwV 0 hts gX9_takesOne_X9_goBehind rfl rfl rfl (by decide +kernel) ⟨Nat.le_of_ble_eq_true rfl, Nat.le_of_ble_eq_true rfl⟩) 0 rfl rfl [0, 1] rfl rfl rfl [.inr 0, .inr 1, .inl 2, .inl 3] rfl rfl rfl rfl (Nat.le_of_ble_eq_true rfl) dX9_takesOne_14 (fun H locs hS => ?_)
    refine lv_aload_n hx hb dX9_takesOne_17 rfl (lv_at hl 0 rfl) ?_
    refine lv_iconst (v := (0 : Int32)) hx hb dX9_takesOne_18 (by decide) ?_
    refine lv_iconst (v := (0 : Int32)) hx hb dX9_takesOne_19 (by decide) ?_
    refine lv_iconst (v := (5 : Int32)) hx hb dX9_takesOne_20 (by decide) ?_
    obtain ⟨q3, hq3, h⟩ := s_bind h
    refine r_calliV (r := q3.1) (As := [.int (0 : Int32), .int (0 : Int32), .int (5 : Int32)]) (rest := []) (wc := (wd_X9_takes cI cB cZ a_this a_all a_kept a_isKept a_refused a_hand a_outs a_order0 a_bestOrder a_tells a_bytes a_anew a_values above below_ bytes bytesLong q2.1 q2.2.1 q2.2.2.1 q2.2.2.2 values)) (w1 := (wd_X9_takes cI cB cZ a_this a_all a_kept a_isKept a_refused a_hand a_outs a_order0 a_bestOrder a_tells a_bytes a_anew a_values above below_ bytes bytesLong q3.2.1 q3.2.2.1 q3.2.2.2.1 q3.2.2.2.2.1 q3.2.2.2.2.2)) (ws' := (wd_X9_takesOne cI cB cZ a_this a_all a_kept a_isKept a_refused a_hand a_outs a_order0 a_bestOrder a_tells a_bytes a_anew a_values above below_ bytes bytesLong q3.2.1 q3.2.2.1 q3.2.2.2.1 q3.2.2.2.2.1 anew q3.2.2.2.2.2)) hx hb hml hown hts hK hA hl hS (c_X9_takes l D cI cB cZ a_this a_all a_kept a_isKept a_refused a_hand a_outs a_order0 a_bestOrder a_tells a_bytes a_anew a_values above below_ bytes bytesLong q2.1 q2.2.1 q2.2.2.1 q2.2.2.2 values (0 : Int32) (0 : Int32) (5 : Int32) _ _ hq3) (cwV 3 hts gX9_takesOne_X9_takes rfl rfl rfl (by decide +kernel) ⟨Nat.le_of_ble_eq_true rfl, Nat.le_of_ble_eq_true rfl⟩) 0 rfl rfl [0, 1, 3] rfl rfl rfl [.inr 0, .inr 1, .inl 2, .inr 2] rfl rfl rfl rfl (Nat.le_of_ble_eq_true rfl) dX9_takesOne_21 (fun H locs hS => ?_)
    refine lv_if_eq (tgt := 38) hx hb dX9_takesOne_24 (by decide) (fun c4 => ?_) (fun c4 => ?_)
    · replace h := s_yes c4 h
      refine lv_iconst (v := (0 : Int32)) hx hb dX9_takesOne_38 (by decide) ?_
      obtain rfl := Option.some.inj h
      exact hend _ _ _ _ dX9_takesOne_39 (Or.inl rfl) hS
    replace h := s_no c4 h
    refine lv_aload_n hx hb dX9_takesOne_27 rfl (lv_at hl 0 rfl) ?_
    refine lv_iconst (v := (1 : Int32)) hx hb dX9_takesOne_28 (by decide) ?_
    refine lv_iconst (v := (0 : Int32)) hx hb dX9_takesOne_29 (by decide) ?_
    refine lv_bipush (v := (9 : Int32)) hx hb dX9_takesOne_30 (by decide) ?_
    obtain ⟨q5, hq5, h⟩ := s_bind h
    refine r_calliV (r := q5.1) (As := [.int (1 : Int32), .int (0 : Int32), .int (9 : Int32)]) (rest := []) (wc := (wd_X9_takes cI cB cZ a_this a_all a_kept a_isKept a_refused a_hand a_outs a_order0 a_bestOrder a_tells a_bytes a_anew a_values above below_ bytes bytesLong q3.2.1 q3.2.2.1 q3.2.2.2.1 q3.2.2.2.2.1 q3.2.2.2.2.2)) (w1 := (wd_X9_takes cI cB cZ a_this a_all a_kept a_isKept a_refused a_hand a_outs a_order0 a_bestOrder a_tells a_bytes a_anew a_values above below_ bytes bytesLong q5.2.1 q5.2.2.1 q5.2.2.2.1 q5.2.2.2.2.1 q5.2.2.2.2.2)) (ws' := (wd_X9_takesOne cI cB cZ a_this a_all a_kept a_isKept a_refused a_hand a_outs a_order0 a_bestOrder a_tells a_bytes a_anew a_values above below_ bytes bytesLong q5.2.1 q5.2.2.1 q5.2.2.2.1 q5.2.2.2.2.1 anew q5.2.2.2.2.2)) hx hb hml hown hts hK hA hl hS (c_X9_takes l D cI cB cZ a_this a_all a_kept a_isKept a_refused a_hand a_outs a_order0 a_bestOrder a_tells a_bytes a_anew a_values above below_ bytes bytesLong q3.2.1 q3.2.2.1 q3.2.2.2.1 q3.2.2.2.2.1 q3.2.2.2.2.2 (1 : Int32) (0 : Int32) (9 : Int32) _ _ hq5) (cwV 3 hts gX9_takesOne_X9_takes rfl rfl rfl (by decide +kernel) ⟨Nat.le_of_ble_eq_true rfl, Nat.le_of_ble_eq_true rfl⟩) 0 rfl rfl [0, 1, 3] rfl rfl rfl [.inr 0, .inr 1, .inl 2, .inr 2] rfl rfl rfl rfl (Nat.le_of_ble_eq_true rfl) dX9_takesOne_32 (fun H locs hS => ?_)
    refine lv_if_ne (tgt := 40) hx hb dX9_takesOne_35 (by decide) (fun c6 => ?_) (fun c6 => ?_)
    · replace h := s_no c6 h
      refine lv_aload_n hx hb dX9_takesOne_40 rfl (lv_at hl 0 rfl) ?_
      refine s_get (C := RX9) (T := TX9) (N := 19) hx hb hts inX9 hown hK hS 0 rfl rfl 17 (by decide) (hts (.fieldLink RX9 45 "InnTurnedModel" "anew" "[I") (List.mem_of_getElem? (i := 1) rfl)) rfl rfl dX9_takesOne_41 ?_
      refine lv_aload_n hx hb dX9_takesOne_44 rfl (lv_at hl 0 rfl) ?_
      refine s_get (C := RX9) (T := TX9) (N := 19) hx hb hts inX9 hown hK hS 0 rfl rfl 18 (by decide) (hts (.fieldLink RX9 48 "InnTurnedModel" "values" "[I") (List.mem_of_getElem? (i := 2) rfl)) rfl rfl dX9_takesOne_45 ?_
      refine lv_iconst (v := (0 : Int32)) hx hb dX9_takesOne_48 (by decide) ?_
      refine s_iald hx hb hK hS 3 rfl rfl (by decide) dX9_takesOne_49 ?_
      refine lv_aload_n hx hb dX9_takesOne_50 rfl (lv_at hl 0 rfl) ?_
      refine s_get (C := RX9) (T := TX9) (N := 19) hx hb hts inX9 hown hK hS 0 rfl rfl 18 (by decide) (hts (.fieldLink RX9 48 "InnTurnedModel" "values" "[I") (List.mem_of_getElem? (i := 2) rfl)) rfl rfl dX9_takesOne_51 ?_
      refine lv_iconst (v := (1 : Int32)) hx hb dX9_takesOne_54 (by decide) ?_
      refine s_iald hx hb hK hS 3 rfl rfl (by decide) dX9_takesOne_55 ?_
      obtain ⟨q7, hq7, h⟩ := s_bind h
      refine r_callvS (As := [.ref a_anew, .int (q5.2.2.2.2.2 (Int32.toNatClampNeg (0 : Int32))), .int (q5.2.2.2.2.2 (Int32.toNatClampNeg (1 : Int32)))]) (rest := []) (wc := (wd_X9_layOne cI cB cZ a_anew 106 anew)) (w1 := (wd_X9_layOne cI cB cZ a_anew 106 q7)) (ws' := (wd_X9_takesOne cI cB cZ a_this a_all a_kept a_isKept a_refused a_hand a_outs a_order0 a_bestOrder a_tells a_bytes a_anew a_values above below_ bytes bytesLong q5.2.1 q5.2.2.1 q5.2.2.2.1 q5.2.2.2.2.1 q7 q5.2.2.2.2.2)) hx hb hml hown hts hK hA hl hS (c_X9_layOne l D cI cB cZ a_anew 106 anew (q5.2.2.2.2.2 (Int32.toNatClampNeg (0 : Int32))) (q5.2.2.2.2.2 (Int32.toNatClampNeg (1 : Int32))) _ _ hq7) (va_cwS 3 hts gX9_takesOne_X9_layOne rfl rfl rfl (by decide +kernel) ⟨Nat.le_of_ble_eq_true rfl, Nat.le_of_ble_eq_true rfl⟩) [2] rfl rfl rfl [.inl 0, .inl 1, .inr 0, .inl 3] rfl rfl rfl rfl (Nat.le_of_ble_eq_true rfl) dX9_takesOne_56 (fun H locs hS => ?_)
      refine lv_iconst (v := (1 : Int32)) hx hb dX9_takesOne_59 (by decide) ?_
      obtain rfl := Option.some.inj h
      exact hend _ _ _ _ dX9_takesOne_60 (Or.inr rfl) hS
    replace h := s_yes c6 h
    refine lv_iconst (v := (0 : Int32)) hx hb dX9_takesOne_38 (by decide) ?_
    obtain rfl := Option.some.inj h
    exact hend _ _ _ _ dX9_takesOne_39 (Or.inl rfl) hS
  replace h := s_yes c1 h
  refine lv_iconst (v := (0 : Int32)) hx hb dX9_takesOne_11 (by decide) ?_
  obtain rfl := Option.some.inj h
  exact hend _ _ _ _ dX9_takesOne_12 (Or.inl rfl) hS

-- InnTurnedModel.isNumberOf(Z)Z
def wd_X9_isNumberOf (cI cB cZ : ClassId) (a_this : Nat) (a_all : Nat) (a_kept : Nat) (a_isKept : Nat) (a_refused : Nat) (a_hand : Nat) (a_outs : Nat) (a_order0 : Nat) (a_bestOrder : Nat) (a_tells : Nat) (a_bytes : Nat) (a_anew : Nat) (a_values : Nat)  (above : Int64) (below_ : Int64) (bytesLong : Int32) (tokenAt : Int32) (tokenLong : Int32) (token : Int32) (value : Int32) (anew : (Nat → Int32)) : va_W := [(a_this, .inr (6, [.ref a_all, .ref a_kept, .ref a_isKept, .ref a_refused, .long above, .long below_, .ref a_hand, .ref a_outs, .ref a_order0, .ref a_bestOrder, .ref a_tells, .ref a_bytes, .int bytesLong, .int tokenAt, .int tokenLong, .int token, .int value, .ref a_anew, .ref a_values])), (a_anew, .inl (cI, 106, .inl anew))]
abbrev rm_X9_isNumberOf : Room := { frames := 1, cells := 0, slots := 0, locals := 25 }
set_option maxRecDepth 20000 in
theorem inX9_X9_isNumberOf : ∀ w ∈ u_ws RX9 TX9 19, w ∈ wsX9_isNumberOf := by decide +kernel
def f_X9_isNumberOf  (token : Int32) (value : Int32) (anew : (Nat → Int32))  (p1 : Int32) : Option (Int32) := (if token = (2 : Int32) then ((f_X9_in (Int32.toInt64 value) (0 : Int64) (Int32.toInt64 ((anew (Int32.toNatClampNeg (0 : Int32))) - (1 : Int32)))).bind fun q2 => (if q2 = 0 then some ((0 : Int32)) else ((f_X9_has (anew (Int32.toNatClampNeg (19 : Int32))) value).bind fun q4 => (if q4 = p1 then some ((1 : Int32)) else some ((0 : Int32)))))) else some ((0 : Int32)))
set_option maxHeartbeats 4000000 in
set_option maxRecDepth 100000 in
theorem c_X9_isNumberOf (l : Launch) (D : va_G) (cI cB cZ : ClassId) (a_this : Nat) (a_all : Nat) (a_kept : Nat) (a_isKept : Nat) (a_refused : Nat) (a_hand : Nat) (a_outs : Nat) (a_order0 : Nat) (a_bestOrder : Nat) (a_tells : Nat) (a_bytes : Nat) (a_anew : Nat) (a_values : Nat) (above : Int64) (below_ : Int64) (bytesLong : Int32) (tokenAt : Int32) (tokenLong : Int32) (token : Int32) (value : Int32) (anew : (Nat → Int32)) (p1 : Int32) (rv : Int32) (sz : Nat) (hf : f_X9_isNumberOf token value anew p1 = some rv) : Met l yX9_isNumberOf wsX9_isNumberOf rm_X9_isNumberOf (sPc D vwCl (s_tys cI cB cZ) [.ref a_this, .int p1] (wd_X9_isNumberOf cI cB cZ a_this a_all a_kept a_isKept a_refused a_hand a_outs a_order0 a_bestOrder a_tells a_bytes a_anew a_values above below_ bytesLong tokenAt tokenLong token value anew) sz) (sQi D vwCl (wd_X9_isNumberOf cI cB cZ a_this a_all a_kept a_isKept a_refused a_hand a_outs a_order0 a_bestOrder a_tells a_bytes a_anew a_values above below_ bytesLong tokenAt tokenLong token value anew) (wd_X9_isNumberOf cI cB cZ a_this a_all a_kept a_isKept a_refused a_hand a_outs a_order0 a_bestOrder a_tells a_bytes a_anew a_values above below_ bytesLong tokenAt tokenLong token value anew) sz rv) 0 0 (va_A (wd_X9_isNumberOf cI cB cZ a_this a_all a_kept a_isKept a_refused a_hand a_outs a_order0 a_bestOrder a_tells a_bytes a_anew a_values above below_ bytesLong tokenAt tokenLong token value anew) sz) := by
  refine s_enter_z (cc := cX9_isNumberOf) (nL := 2) (r := rv) (by decide) rfl (Nat.le_of_ble_eq_true rfl) ?_
  intro p e s m args below meth c A Q C0 hend ls hl hS
  have h := hf
  clear hf
  replace hl : lv_has ls 2 [(0, .ref a_this), (1, .int p1)] := hl
  unfold f_X9_isNumberOf at h
  obtain ⟨hx, hb, hml, hown, hts, hK, hA⟩ := id C0
  have inX9 : ∀ w ∈ u_ws RX9 TX9 19, w ∈ wsX9_isNumberOf := inX9_X9_isNumberOf
  refine lv_aload_n hx hb dX9_isNumberOf_0 rfl (lv_at hl 0 rfl) ?_
  refine s_get (C := RX9) (T := TX9) (N := 19) hx hb hts inX9 hown hK hS 0 rfl rfl 15 (by decide) (hts (.fieldLink RX9 234 "InnTurnedModel" "token" "I") (List.mem_of_getElem? (i := 1) rfl)) rfl rfl dX9_isNumberOf_1 ?_
  refine lv_iconst (v := (2 : Int32)) hx hb dX9_isNumberOf_4 (by decide) ?_
  refine lv_icmp_ne (tgt := 51) hx hb dX9_isNumberOf_5 (by decide) (fun c1 => ?_) (fun c1 => ?_)
  · replace h := s_no c1 h
    refine lv_iconst (v := (0 : Int32)) hx hb dX9_isNumberOf_51 (by decide) ?_
    obtain rfl := Option.some.inj h
    exact hend _ _ _ _ dX9_isNumberOf_52 (Or.inl rfl) hS
  replace h := s_yes c1 h
  refine lv_aload_n hx hb dX9_isNumberOf_8 rfl (lv_at hl 0 rfl) ?_
  refine s_get (C := RX9) (T := TX9) (N := 19) hx hb hts inX9 hown hK hS 0 rfl rfl 16 (by decide) (hts (.fieldLink RX9 237 "InnTurnedModel" "value" "I") (List.mem_of_getElem? (i := 2) rfl)) rfl rfl dX9_isNumberOf_9 ?_
  refine lv_i2l (v := (Int32.toInt64 value)) hx hb dX9_isNumberOf_12 rfl ?_
  refine lv_lconst (v := (0 : Int64)) hx hb dX9_isNumberOf_13 (by decide) ?_
  refine lv_aload_n hx hb dX9_isNumberOf_14 rfl (lv_at hl 0 rfl) ?_
  refine s_get (C := RX9) (T := TX9) (N := 19) hx hb hts inX9 hown hK hS 0 rfl rfl 17 (by decide) (hts (.fieldLink RX9 45 "InnTurnedModel" "anew" "[I") (List.mem_of_getElem? (i := 3) rfl)) rfl rfl dX9_isNumberOf_15 ?_
  refine lv_iconst (v := (0 : Int32)) hx hb dX9_isNumberOf_18 (by decide) ?_
  refine s_iald hx hb hK hS 1 rfl rfl (by decide) dX9_isNumberOf_19 ?_
  refine lv_iconst (v := (1 : Int32)) hx hb dX9_isNumberOf_20 (by decide) ?_
  refine lv_isub hx hb dX9_isNumberOf_21 ?_
  refine lv_i2l (v := (Int32.toInt64 ((anew (Int32.toNatClampNeg (0 : Int32))) - (1 : Int32)))) hx hb dX9_isNumberOf_22 rfl ?_
  obtain ⟨q2, hq2, h⟩ := s_bind h
  refine u_calliS (r := q2) (As := [.long (Int32.toInt64 value), .long (0 : Int64), .long (Int32.toInt64 ((anew (Int32.toNatClampNeg (0 : Int32))) - (1 : Int32)))]) (rest := []) (wc := ([] : va_W)) hx hb hml hown hts hK hA hl hS (c_X9_in l D cI cB cZ (Int32.toInt64 value) (0 : Int64) (Int32.toInt64 ((anew (Int32.toNatClampNeg (0 : Int32))) - (1 : Int32))) _ _ hq2) (va_cwS 3 hts gX9_isNumberOf_X9_in rfl rfl rfl (by decide +kernel) ⟨Nat.le_of_ble_eq_true rfl, Nat.le_of_ble_eq_true rfl⟩) [] rfl rfl rfl rfl (Nat.le_of_ble_eq_true rfl) dX9_isNumberOf_23 (fun H locs hS => ?_)
  refine lv_if_eq (tgt := 51) hx hb dX9_isNumberOf_26 (by decide) (fun c3 => ?_) (fun c3 => ?_)
  · replace h := s_yes c3 h
    refine lv_iconst (v := (0 : Int32)) hx hb dX9_isNumberOf_51 (by decide) ?_
    obtain rfl := Option.some.inj h
    exact hend _ _ _ _ dX9_isNumberOf_52 (Or.inl rfl) hS
  replace h := s_no c3 h
  refine lv_aload_n hx hb dX9_isNumberOf_29 rfl (lv_at hl 0 rfl) ?_
  refine s_get (C := RX9) (T := TX9) (N := 19) hx hb hts inX9 hown hK hS 0 rfl rfl 17 (by decide) (hts (.fieldLink RX9 45 "InnTurnedModel" "anew" "[I") (List.mem_of_getElem? (i := 3) rfl)) rfl rfl dX9_isNumberOf_30 ?_
  refine lv_bipush (v := (19 : Int32)) hx hb dX9_isNumberOf_33 (by decide) ?_
  refine s_iald hx hb hK hS 1 rfl rfl (by decide) dX9_isNumberOf_35 ?_
  refine lv_aload_n hx hb dX9_isNumberOf_36 rfl (lv_at hl 0 rfl) ?_
  refine s_get (C := RX9) (T := TX9) (N := 19) hx hb hts inX9 hown hK hS 0 rfl rfl 16 (by decide) (hts (.fieldLink RX9 237 "InnTurnedModel" "value" "I") (List.mem_of_getElem? (i := 2) rfl)) rfl rfl dX9_isNumberOf_37 ?_
  obtain ⟨q4, hq4, h⟩ := s_bind h
  refine u_calliS (r := q4) (As := [.int (anew (Int32.toNatClampNeg (19 : Int32))), .int value]) (rest := []) (wc := ([] : va_W)) hx hb hml hown hts hK hA hl hS (c_X9_has l D cI cB cZ (anew (Int32.toNatClampNeg (19 : Int32))) value _ _ hq4) (va_cwS 2 hts gX9_isNumberOf_X9_has rfl rfl rfl (by decide +kernel) ⟨Nat.le_of_ble_eq_true rfl, Nat.le_of_ble_eq_true rfl⟩) [] rfl rfl rfl rfl (Nat.le_of_ble_eq_true rfl) dX9_isNumberOf_40 (fun H locs hS => ?_)
  refine lv_iload_n hx hb dX9_isNumberOf_43 rfl (lv_at hl 1 rfl) ?_
  refine lv_icmp_ne (tgt := 51) hx hb dX9_isNumberOf_44 (by decide) (fun c5 => ?_) (fun c5 => ?_)
  · replace h := s_no c5 h
    refine lv_iconst (v := (0 : Int32)) hx hb dX9_isNumberOf_51 (by decide) ?_
    obtain rfl := Option.some.inj h
    exact hend _ _ _ _ dX9_isNumberOf_52 (Or.inl rfl) hS
  replace h := s_yes c5 h
  refine lv_iconst (v := (1 : Int32)) hx hb dX9_isNumberOf_47 (by decide) ?_
  refine lv_goto (tgt := 52) hx hb dX9_isNumberOf_48 (by decide) ?_
  obtain rfl := Option.some.inj h
  exact hend _ _ _ _ dX9_isNumberOf_52 (Or.inr rfl) hS

-- InnTurnedModel.takesCome()Z
def wd_X9_takesCome (cI cB cZ : ClassId) (a_this : Nat) (a_all : Nat) (a_kept : Nat) (a_isKept : Nat) (a_refused : Nat) (a_hand : Nat) (a_outs : Nat) (a_order0 : Nat) (a_bestOrder : Nat) (a_tells : Nat) (a_bytes : Nat) (a_anew : Nat) (a_values : Nat)  (above : Int64) (below_ : Int64) (bytes : (Nat → Int32)) (bytesLong : Int32) (tokenAt : Int32) (tokenLong : Int32) (token : Int32) (value : Int32) (anew : (Nat → Int32)) : va_W := [(a_this, .inr (6, [.ref a_all, .ref a_kept, .ref a_isKept, .ref a_refused, .long above, .long below_, .ref a_hand, .ref a_outs, .ref a_order0, .ref a_bestOrder, .ref a_tells, .ref a_bytes, .int bytesLong, .int tokenAt, .int tokenLong, .int token, .int value, .ref a_anew, .ref a_values])), (a_bytes, .inl (cI, 150, .inl bytes)), (a_anew, .inl (cI, 106, .inl anew))]
abbrev rm_X9_takesCome : Room := { frames := 4, cells := 0, slots := 0, locals := 89 }
set_option maxRecDepth 20000 in
theorem inX9_X9_takesCome : ∀ w ∈ u_ws RX9 TX9 19, w ∈ wsX9_takesCome := by decide +kernel
def f_X9_takesCome  (bytes : (Nat → Int32)) (bytesLong : Int32) (tokenAt : Int32) (tokenLong : Int32) (token : Int32) (value : Int32) (anew : (Nat → Int32)) : Option (Int32 × Int32 × Int32 × Int32 × Int32 × (Nat → Int32)) := ((f_X9_goBehind bytes bytesLong tokenAt tokenLong token value).bind fun q1 => ((f_X9_isNumberOf q1.2.2.1 q1.2.2.2 anew (0 : Int32)).bind fun q2 => (if q2 = 0 then some ((0 : Int32), q1.1, q1.2.1, q1.2.2.1, q1.2.2.2, anew) else ((f_X9_goCome 106 anew q1.2.2.2).bind fun q4 => ((f_X9_goBehind bytes bytesLong q1.1 q1.2.1 q1.2.2.1 q1.2.2.2).bind fun q5 => some ((1 : Int32), q5.1, q5.2.1, q5.2.2.1, q5.2.2.2, q4.2))))))
set_option maxHeartbeats 4000000 in
set_option maxRecDepth 100000 in
theorem c_X9_takesCome (l : Launch) (D : va_G) (cI cB cZ : ClassId) (a_this : Nat) (a_all : Nat) (a_kept : Nat) (a_isKept : Nat) (a_refused : Nat) (a_hand : Nat) (a_outs : Nat) (a_order0 : Nat) (a_bestOrder : Nat) (a_tells : Nat) (a_bytes : Nat) (a_anew : Nat) (a_values : Nat) (above : Int64) (below_ : Int64) (bytes : (Nat → Int32)) (bytesLong : Int32) (tokenAt : Int32) (tokenLong : Int32) (token : Int32) (value : Int32) (anew : (Nat → Int32)) (rv : Int32 × Int32 × Int32 × Int32 × Int32 × (Nat → Int32)) (sz : Nat) (hf : f_X9_takesCome bytes bytesLong tokenAt tokenLong token value anew = some rv) : Met l yX9_takesCome wsX9_takesCome rm_X9_takesCome (sPc D vwCl (s_tys cI cB cZ) [.ref a_this] (wd_X9_takesCome cI cB cZ a_this a_all a_kept a_isKept a_refused a_hand a_outs a_order0 a_bestOrder a_tells a_bytes a_anew a_values above below_ bytes bytesLong tokenAt tokenLong token value anew) sz) (sQi D vwCl (wd_X9_takesCome cI cB cZ a_this a_all a_kept a_isKept a_refused a_hand a_outs a_order0 a_bestOrder a_tells a_bytes a_anew a_values above below_ bytes bytesLong tokenAt tokenLong token value anew) (wd_X9_takesCome cI cB cZ a_this a_all a_kept a_isKept a_refused a_hand a_outs a_order0 a_bestOrder a_tells a_bytes a_anew a_values above below_ bytes bytesLong rv.2.1 rv.2.2.1 rv.2.2.2.1 rv.2.2.2.2.1 rv.2.2.2.2.2) sz rv.1) 0 0 (va_A (wd_X9_takesCome cI cB cZ a_this a_all a_kept a_isKept a_refused a_hand a_outs a_order0 a_bestOrder a_tells a_bytes a_anew a_values above below_ bytes bytesLong tokenAt tokenLong token value anew) sz) := by
  refine s_enter_z (cc := cX9_takesCome) (nL := 2) (r := rv.1) (by decide) rfl (Nat.le_of_ble_eq_true rfl) ?_
  intro p e s m args below meth c A Q C0 hend ls hl hS
  have h := hf
  clear hf
  replace hl : lv_has ls 2 [(0, .ref a_this)] := hl
  unfold f_X9_takesCome at h
  obtain ⟨hx, hb, hml, hown, hts, hK, hA⟩ := id C0
  have inX9 : ∀ w ∈ u_ws RX9 TX9 19, w ∈ wsX9_takesCome := inX9_X9_takesCome
  refine lv_aload_n hx hb dX9_takesCome_0 rfl (lv_at hl 0 rfl) ?_
  obtain ⟨q1, hq1, h⟩ := s_bind h
  refine r_callvV (As := []) (rest := []) (wc := (wd_X9_goBehind cI cB cZ a_this a_all a_kept a_isKept a_refused a_hand a_outs a_order0 a_bestOrder a_tells a_bytes a_anew a_values above below_ bytes bytesLong tokenAt tokenLong token value)) (w1 := (wd_X9_goBehind cI cB cZ a_this a_all a_kept a_isKept a_refused a_hand a_outs a_order0 a_bestOrder a_tells a_bytes a_anew a_values above below_ bytes bytesLong q1.1 q1.2.1 q1.2.2.1 q1.2.2.2)) (ws' := (wd_X9_takesCome cI cB cZ a_this a_all a_kept a_isKept a_refused a_hand a_outs a_order0 a_bestOrder a_tells a_bytes a_anew a_values above below_ bytes bytesLong q1.1 q1.2.1 q1.2.2.1 q1.2.2.2 anew)) hx hb hml hown hts hK hA hl hS (c_X9_goBehind l D cI cB cZ a_this a_all a_kept a_isKept a_refused a_hand a_outs a_order0 a_bestOrder a_tells a_bytes a_anew a_values above below_ bytes bytesLong tokenAt tokenLong token value _ _ hq1) (cwV 0 hts gX9_takesCome_X9_goBehind rfl rfl rfl (by decide +kernel) ⟨Nat.le_of_ble_eq_true rfl, Nat.le_of_ble_eq_true rfl⟩) 0 rfl rfl [0, 1] rfl rfl rfl [.inr 0, .inr 1, .inl 2] rfl rfl rfl rfl (Nat.le_of_ble_eq_true rfl) dX9_takesCome_1 (fun H locs hS => ?_)
  refine lv_aload_n hx hb dX9_takesCome_4 rfl (lv_at hl 0 rfl) ?_
  refine lv_iconst (v := (0 : Int32)) hx hb dX9_takesCome_5 (by decide) ?_
  obtain ⟨q2, hq2, h⟩ := s_bind h
  refine u_calliV (r := q2) (As := [.int (0 : Int32)]) (rest := []) (wc := (wd_X9_isNumberOf cI cB cZ a_this a_all a_kept a_isKept a_refused a_hand a_outs a_order0 a_bestOrder a_tells a_bytes a_anew a_values above below_ bytesLong q1.1 q1.2.1 q1.2.2.1 q1.2.2.2 anew)) hx hb hml hown hts hK hA hl hS (c_X9_isNumberOf l D cI cB cZ a_this a_all a_kept a_isKept a_refused a_hand a_outs a_order0 a_bestOrder a_tells a_bytes a_anew a_values above below_ bytesLong q1.1 q1.2.1 q1.2.2.1 q1.2.2.2 anew (0 : Int32) _ _ hq2) (cwV 1 hts gX9_takesCome_X9_isNumberOf rfl rfl rfl (by decide +kernel) ⟨Nat.le_of_ble_eq_true rfl, Nat.le_of_ble_eq_true rfl⟩) 0 rfl rfl [0, 2] rfl rfl rfl rfl (Nat.le_of_ble_eq_true rfl) dX9_takesCome_6 (fun H locs hS => ?_)
  refine lv_if_ne (tgt := 14) hx hb dX9_takesCome_9 (by decide) (fun c3 => ?_) (fun c3 => ?_)
  · replace h := s_no c3 h
    refine lv_aload_n hx hb dX9_takesCome_14 rfl (lv_at hl 0 rfl) ?_
    refine s_get (C := RX9) (T := TX9) (N := 19) hx hb hts inX9 hown hK hS 0 rfl rfl 17 (by decide) (hts (.fieldLink RX9 45 "InnTurnedModel" "anew" "[I") (List.mem_of_getElem? (i := 1) rfl)) rfl rfl dX9_takesCome_15 ?_
    refine lv_aload_n hx hb dX9_takesCome_18 rfl (lv_at hl 0 rfl) ?_
    refine s_get (C := RX9) (T := TX9) (N := 19) hx hb hts inX9 hown hK hS 0 rfl rfl 16 (by decide) (hts (.fieldLink RX9 237 "InnTurnedModel" "value" "I") (List.mem_of_getElem? (i := 2) rfl)) rfl rfl dX9_takesCome_19 ?_
    obtain ⟨q4, hq4, h⟩ := s_bind h
    refine r_calliS (r := q4.1) (As := [.ref a_anew, .int q1.2.2.2]) (rest := []) (wc := (wd_X9_goCome cI cB cZ a_anew 106 anew)) (w1 := (wd_X9_goCome cI cB cZ a_anew 106 q4.2)) (ws' := (wd_X9_takesCome cI cB cZ a_this a_all a_kept a_isKept a_refused a_hand a_outs a_order0 a_bestOrder a_tells a_bytes a_anew a_values above below_ bytes bytesLong q1.1 q1.2.1 q1.2.2.1 q1.2.2.2 q4.2)) hx hb hml hown hts hK hA hl hS (c_X9_goCome l D cI cB cZ a_anew 106 anew q1.2.2.2 _ _ hq4) (va_cwS 2 hts gX9_takesCome_X9_goCome rfl rfl rfl (by decide +kernel) ⟨Nat.le_of_ble_eq_true rfl, Nat.le_of_ble_eq_true rfl⟩) [2] rfl rfl rfl [.inl 0, .inl 1, .inr 0] rfl rfl rfl rfl (Nat.le_of_ble_eq_true rfl) dX9_takesCome_22 (fun H locs hS => ?_)
    refine lv_istore_n (lv' := [(1, .int q4.1), (0, .ref a_this)]) hx hb dX9_takesCome_25 rfl hl (by decide) rfl (fun ls hl => ?_)
    refine lv_aload_n hx hb dX9_takesCome_26 rfl (lv_at hl 1 rfl) ?_
    obtain ⟨q5, hq5, h⟩ := s_bind h
    refine r_callvV (As := []) (rest := []) (wc := (wd_X9_goBehind cI cB cZ a_this a_all a_kept a_isKept a_refused a_hand a_outs a_order0 a_bestOrder a_tells a_bytes a_anew a_values above below_ bytes bytesLong q1.1 q1.2.1 q1.2.2.1 q1.2.2.2)) (w1 := (wd_X9_goBehind cI cB cZ a_this a_all a_kept a_isKept a_refused a_hand a_outs a_order0 a_bestOrder a_tells a_bytes a_anew a_values above below_ bytes bytesLong q5.1 q5.2.1 q5.2.2.1 q5.2.2.2)) (ws' := (wd_X9_takesCome cI cB cZ a_this a_all a_kept a_isKept a_refused a_hand a_outs a_order0 a_bestOrder a_tells a_bytes a_anew a_values above below_ bytes bytesLong q5.1 q5.2.1 q5.2.2.1 q5.2.2.2 q4.2)) hx hb hml hown hts hK hA hl hS (c_X9_goBehind l D cI cB cZ a_this a_all a_kept a_isKept a_refused a_hand a_outs a_order0 a_bestOrder a_tells a_bytes a_anew a_values above below_ bytes bytesLong q1.1 q1.2.1 q1.2.2.1 q1.2.2.2 _ _ hq5) (cwV 0 hts gX9_takesCome_X9_goBehind rfl rfl rfl (by decide +kernel) ⟨Nat.le_of_ble_eq_true rfl, Nat.le_of_ble_eq_true rfl⟩) 0 rfl rfl [0, 1] rfl rfl rfl [.inr 0, .inr 1, .inl 2] rfl rfl rfl rfl (Nat.le_of_ble_eq_true rfl) dX9_takesCome_27 (fun H locs hS => ?_)
    refine lv_iconst (v := (1 : Int32)) hx hb dX9_takesCome_30 (by decide) ?_
    obtain rfl := Option.some.inj h
    exact hend _ _ _ _ dX9_takesCome_31 (Or.inr rfl) hS
  replace h := s_yes c3 h
  refine lv_iconst (v := (0 : Int32)) hx hb dX9_takesCome_12 (by decide) ?_
  obtain rfl := Option.some.inj h
  exact hend _ _ _ _ dX9_takesCome_13 (Or.inl rfl) hS

-- InnTurnedModel.takesGo()Z
def wd_X9_takesGo (cI cB cZ : ClassId) (a_this : Nat) (a_all : Nat) (a_kept : Nat) (a_isKept : Nat) (a_refused : Nat) (a_hand : Nat) (a_outs : Nat) (a_order0 : Nat) (a_bestOrder : Nat) (a_tells : Nat) (a_bytes : Nat) (a_anew : Nat) (a_values : Nat)  (above : Int64) (below_ : Int64) (bytes : (Nat → Int32)) (bytesLong : Int32) (tokenAt : Int32) (tokenLong : Int32) (token : Int32) (value : Int32) (anew : (Nat → Int32)) : va_W := [(a_this, .inr (6, [.ref a_all, .ref a_kept, .ref a_isKept, .ref a_refused, .long above, .long below_, .ref a_hand, .ref a_outs, .ref a_order0, .ref a_bestOrder, .ref a_tells, .ref a_bytes, .int bytesLong, .int tokenAt, .int tokenLong, .int token, .int value, .ref a_anew, .ref a_values])), (a_bytes, .inl (cI, 150, .inl bytes)), (a_anew, .inl (cI, 106, .inl anew))]
abbrev rm_X9_takesGo : Room := { frames := 4, cells := 0, slots := 0, locals := 89 }
set_option maxRecDepth 20000 in
theorem inX9_X9_takesGo : ∀ w ∈ u_ws RX9 TX9 19, w ∈ wsX9_takesGo := by decide +kernel
def f_X9_takesGo  (bytes : (Nat → Int32)) (bytesLong : Int32) (tokenAt : Int32) (tokenLong : Int32) (token : Int32) (value : Int32) (anew : (Nat → Int32)) : Option (Int32 × Int32 × Int32 × Int32 × Int32 × (Nat → Int32)) := ((f_X9_goBehind bytes bytesLong tokenAt tokenLong token value).bind fun q1 => ((f_X9_isNumberOf q1.2.2.1 q1.2.2.2 anew (1 : Int32)).bind fun q2 => (if q2 = 0 then some ((0 : Int32), q1.1, q1.2.1, q1.2.2.1, q1.2.2.2, anew) else ((f_X9_goBehind bytes bytesLong q1.1 q1.2.1 q1.2.2.1 q1.2.2.2).bind fun q4 => some ((1 : Int32), q4.1, q4.2.1, q4.2.2.1, q4.2.2.2, (upd anew (Int32.toNatClampNeg (19 : Int32)) ((anew (Int32.toNatClampNeg (19 : Int32))) &&& (((1 : Int32) <<< (q1.2.2.2 &&& 31)) ^^^ (-1 : Int32)))))))))
set_option maxHeartbeats 4000000 in
set_option maxRecDepth 100000 in
theorem c_X9_takesGo (l : Launch) (D : va_G) (cI cB cZ : ClassId) (a_this : Nat) (a_all : Nat) (a_kept : Nat) (a_isKept : Nat) (a_refused : Nat) (a_hand : Nat) (a_outs : Nat) (a_order0 : Nat) (a_bestOrder : Nat) (a_tells : Nat) (a_bytes : Nat) (a_anew : Nat) (a_values : Nat) (above : Int64) (below_ : Int64) (bytes : (Nat → Int32)) (bytesLong : Int32) (tokenAt : Int32) (tokenLong : Int32) (token : Int32) (value : Int32) (anew : (Nat → Int32)) (rv : Int32 × Int32 × Int32 × Int32 × Int32 × (Nat → Int32)) (sz : Nat) (hf : f_X9_takesGo bytes bytesLong tokenAt tokenLong token value anew = some rv) : Met l yX9_takesGo wsX9_takesGo rm_X9_takesGo (sPc D vwCl (s_tys cI cB cZ) [.ref a_this] (wd_X9_takesGo cI cB cZ a_this a_all a_kept a_isKept a_refused a_hand a_outs a_order0 a_bestOrder a_tells a_bytes a_anew a_values above below_ bytes bytesLong tokenAt tokenLong token value anew) sz) (sQi D vwCl (wd_X9_takesGo cI cB cZ a_this a_all a_kept a_isKept a_refused a_hand a_outs a_order0 a_bestOrder a_tells a_bytes a_anew a_values above below_ bytes bytesLong tokenAt tokenLong token value anew) (wd_X9_takesGo cI cB cZ a_this a_all a_kept a_isKept a_refused a_hand a_outs a_order0 a_bestOrder a_tells a_bytes a_anew a_values above below_ bytes bytesLong rv.2.1 rv.2.2.1 rv.2.2.2.1 rv.2.2.2.2.1 rv.2.2.2.2.2) sz rv.1) 0 0 (va_A (wd_X9_takesGo cI cB cZ a_this a_all a_kept a_isKept a_refused a_hand a_outs a_order0 a_bestOrder a_tells a_bytes a_anew a_values above below_ bytes bytesLong tokenAt tokenLong token value anew) sz) := by
  refine s_enter_z (cc := cX9_takesGo) (nL := 1) (r := rv.1) (by decide) rfl (Nat.le_of_ble_eq_true rfl) ?_
  intro p e s m args below meth c A Q C0 hend ls hl hS
  have h := hf
  clear hf
  replace hl : lv_has ls 1 [(0, .ref a_this)] := hl
  unfold f_X9_takesGo at h
  obtain ⟨hx, hb, hml, hown, hts, hK, hA⟩ := id C0
  have inX9 : ∀ w ∈ u_ws RX9 TX9 19, w ∈ wsX9_takesGo := inX9_X9_takesGo
  refine lv_aload_n hx hb dX9_takesGo_0 rfl (lv_at hl 0 rfl) ?_
  obtain ⟨q1, hq1, h⟩ := s_bind h
  refine r_callvV (As := []) (rest := []) (wc := (wd_X9_goBehind cI cB cZ a_this a_all a_kept a_isKept a_refused a_hand a_outs a_order0 a_bestOrder a_tells a_bytes a_anew a_values above below_ bytes bytesLong tokenAt tokenLong token value)) (w1 := (wd_X9_goBehind cI cB cZ a_this a_all a_kept a_isKept a_refused a_hand a_outs a_order0 a_bestOrder a_tells a_bytes a_anew a_values above below_ bytes bytesLong q1.1 q1.2.1 q1.2.2.1 q1.2.2.2)) (ws' := (wd_X9_takesGo cI cB cZ a_this a_all a_kept a_isKept a_refused a_hand a_outs a_order0 a_bestOrder a_tells a_bytes a_anew a_values above below_ bytes bytesLong q1.1 q1.2.1 q1.2.2.1 q1.2.2.2 anew)) hx hb hml hown hts hK hA hl hS (c_X9_goBehind l D cI cB cZ a_this a_all a_kept a_isKept a_refused a_hand a_outs a_order0 a_bestOrder a_tells a_bytes a_anew a_values above below_ bytes bytesLong tokenAt tokenLong token value _ _ hq1) (cwV 0 hts gX9_takesGo_X9_goBehind rfl rfl rfl (by decide +kernel) ⟨Nat.le_of_ble_eq_true rfl, Nat.le_of_ble_eq_true rfl⟩) 0 rfl rfl [0, 1] rfl rfl rfl [.inr 0, .inr 1, .inl 2] rfl rfl rfl rfl (Nat.le_of_ble_eq_true rfl) dX9_takesGo_1 (fun H locs hS => ?_)
  refine lv_aload_n hx hb dX9_takesGo_4 rfl (lv_at hl 0 rfl) ?_
  refine lv_iconst (v := (1 : Int32)) hx hb dX9_takesGo_5 (by decide) ?_
  obtain ⟨q2, hq2, h⟩ := s_bind h
  refine u_calliV (r := q2) (As := [.int (1 : Int32)]) (rest := []) (wc := (wd_X9_isNumberOf cI cB cZ a_this a_all a_kept a_isKept a_refused a_hand a_outs a_order0 a_bestOrder a_tells a_bytes a_anew a_values above below_ bytesLong q1.1 q1.2.1 q1.2.2.1 q1.2.2.2 anew)) hx hb hml hown hts hK hA hl hS (c_X9_isNumberOf l D cI cB cZ a_this a_all a_kept a_isKept a_refused a_hand a_outs a_order0 a_bestOrder a_tells a_bytes a_anew a_values above below_ bytesLong q1.1 q1.2.1 q1.2.2.1 q1.2.2.2 anew (1 : Int32) _ _ hq2) (cwV 1 hts gX9_takesGo_X9_isNumberOf rfl rfl rfl (by decide +kernel) ⟨Nat.le_of_ble_eq_true rfl, Nat.le_of_ble_eq_true rfl⟩) 0 rfl rfl [0, 2] rfl rfl rfl rfl (Nat.le_of_ble_eq_true rfl) dX9_takesGo_6 (fun H locs hS => ?_)
  refine lv_if_ne (tgt := 14) hx hb dX9_takesGo_9 (by decide) (fun c3 => ?_) (fun c3 => ?_)
  · replace h := s_no c3 h
    refine lv_aload_n hx hb dX9_takesGo_14 rfl (lv_at hl 0 rfl) ?_
    refine s_get (C := RX9) (T := TX9) (N := 19) hx hb hts inX9 hown hK hS 0 rfl rfl 17 (by decide) (hts (.fieldLink RX9 45 "InnTurnedModel" "anew" "[I") (List.mem_of_getElem? (i := 1) rfl)) rfl rfl dX9_takesGo_15 ?_
    refine lv_bipush (v := (19 : Int32)) hx hb dX9_takesGo_18 (by decide) ?_
    refine lv_dup2_11 hx hb dX9_takesGo_20 rfl rfl ?_
    refine s_iald hx hb hK hS 2 rfl rfl (by decide) dX9_takesGo_21 ?_
    refine lv_iconst (v := (1 : Int32)) hx hb dX9_takesGo_22 (by decide) ?_
    refine lv_aload_n hx hb dX9_takesGo_23 rfl (lv_at hl 0 rfl) ?_
    refine s_get (C := RX9) (T := TX9) (N := 19) hx hb hts inX9 hown hK hS 0 rfl rfl 16 (by decide) (hts (.fieldLink RX9 237 "InnTurnedModel" "value" "I") (List.mem_of_getElem? (i := 2) rfl)) rfl rfl dX9_takesGo_24 ?_
    refine lv_ishl hx hb dX9_takesGo_27 ?_
    refine lv_iconst (v := (-1 : Int32)) hx hb dX9_takesGo_28 (by decide) ?_
    refine lv_ixor hx hb dX9_takesGo_29 ?_
    refine lv_iand hx hb dX9_takesGo_30 ?_
    refine s_iast (ws' := (wd_X9_takesGo cI cB cZ a_this a_all a_kept a_isKept a_refused a_hand a_outs a_order0 a_bestOrder a_tells a_bytes a_anew a_values above below_ bytes bytesLong q1.1 q1.2.1 q1.2.2.1 q1.2.2.2 (upd anew (Int32.toNatClampNeg (19 : Int32)) ((anew (Int32.toNatClampNeg (19 : Int32))) &&& (((1 : Int32) <<< (q1.2.2.2 &&& 31)) ^^^ (-1 : Int32)))))) hx hb hK hS 2 rfl rfl (by decide) rfl dX9_takesGo_31 (fun H locs hS => ?_)
    refine lv_aload_n hx hb dX9_takesGo_32 rfl (lv_at hl 0 rfl) ?_
    obtain ⟨q4, hq4, h⟩ := s_bind h
    refine r_callvV (As := []) (rest := []) (wc := (wd_X9_goBehind cI cB cZ a_this a_all a_kept a_isKept a_refused a_hand a_outs a_order0 a_bestOrder a_tells a_bytes a_anew a_values above below_ bytes bytesLong q1.1 q1.2.1 q1.2.2.1 q1.2.2.2)) (w1 := (wd_X9_goBehind cI cB cZ a_this a_all a_kept a_isKept a_refused a_hand a_outs a_order0 a_bestOrder a_tells a_bytes a_anew a_values above below_ bytes bytesLong q4.1 q4.2.1 q4.2.2.1 q4.2.2.2)) (ws' := (wd_X9_takesGo cI cB cZ a_this a_all a_kept a_isKept a_refused a_hand a_outs a_order0 a_bestOrder a_tells a_bytes a_anew a_values above below_ bytes bytesLong q4.1 q4.2.1 q4.2.2.1 q4.2.2.2 (upd anew (Int32.toNatClampNeg (19 : Int32)) ((anew (Int32.toNatClampNeg (19 : Int32))) &&& (((1 : Int32) <<< (q1.2.2.2 &&& 31)) ^^^ (-1 : Int32)))))) hx hb hml hown hts hK hA hl hS (c_X9_goBehind l D cI cB cZ a_this a_all a_kept a_isKept a_refused a_hand a_outs a_order0 a_bestOrder a_tells a_bytes a_anew a_values above below_ bytes bytesLong q1.1 q1.2.1 q1.2.2.1 q1.2.2.2 _ _ hq4) (cwV 0 hts gX9_takesGo_X9_goBehind rfl rfl rfl (by decide +kernel) ⟨Nat.le_of_ble_eq_true rfl, Nat.le_of_ble_eq_true rfl⟩) 0 rfl rfl [0, 1] rfl rfl rfl [.inr 0, .inr 1, .inl 2] rfl rfl rfl rfl (Nat.le_of_ble_eq_true rfl) dX9_takesGo_33 (fun H locs hS => ?_)
    refine lv_iconst (v := (1 : Int32)) hx hb dX9_takesGo_36 (by decide) ?_
    obtain rfl := Option.some.inj h
    exact hend _ _ _ _ dX9_takesGo_37 (Or.inr rfl) hS
  replace h := s_yes c3 h
  refine lv_iconst (v := (0 : Int32)) hx hb dX9_takesGo_12 (by decide) ?_
  obtain rfl := Option.some.inj h
  exact hend _ _ _ _ dX9_takesGo_13 (Or.inl rfl) hS

-- InnTurnedModel.takesLetter()Z
def wd_X9_takesLetter (cI cB cZ : ClassId) (a_this : Nat) (a_all : Nat) (a_kept : Nat) (a_isKept : Nat) (a_refused : Nat) (a_hand : Nat) (a_outs : Nat) (a_order0 : Nat) (a_bestOrder : Nat) (a_tells : Nat) (a_bytes : Nat) (a_anew : Nat) (a_values : Nat)  (above : Int64) (below_ : Int64) (bytes : (Nat → Int32)) (bytesLong : Int32) (tokenAt : Int32) (tokenLong : Int32) (token : Int32) (value : Int32) (anew : (Nat → Int32)) (values : (Nat → Int32)) : va_W := [(a_this, .inr (6, [.ref a_all, .ref a_kept, .ref a_isKept, .ref a_refused, .long above, .long below_, .ref a_hand, .ref a_outs, .ref a_order0, .ref a_bestOrder, .ref a_tells, .ref a_bytes, .int bytesLong, .int tokenAt, .int tokenLong, .int token, .int value, .ref a_anew, .ref a_values])), (a_bytes, .inl (cI, 150, .inl bytes)), (a_anew, .inl (cI, 106, .inl anew)), (a_values, .inl (cI, 2, .inl values))]
abbrev rm_X9_takesLetter : Room := { frames := 5, cells := 0, slots := 0, locals := 112 }
set_option maxRecDepth 20000 in
theorem inX9_X9_takesLetter : ∀ w ∈ u_ws RX9 TX9 19, w ∈ wsX9_takesLetter := by decide +kernel
def f_X9_takesLetter  (bytes : (Nat → Int32)) (bytesLong : Int32) (tokenAt : Int32) (tokenLong : Int32) (token : Int32) (value : Int32) (anew : (Nat → Int32)) (values : (Nat → Int32)) : Option (Int32 × Int32 × Int32 × Int32 × Int32 × (Nat → Int32) × (Nat → Int32)) := ((f_X9_goBehind bytes bytesLong tokenAt tokenLong token value).bind fun q1 => ((f_X9_takes bytes bytesLong q1.1 q1.2.1 q1.2.2.1 q1.2.2.2 values (0 : Int32) (0 : Int32) ((anew (Int32.toNatClampNeg (0 : Int32))) - (1 : Int32))).bind fun q2 => (if q2.1 = 0 then some ((0 : Int32), q2.2.1, q2.2.2.1, q2.2.2.2.1, q2.2.2.2.2.1, anew, q2.2.2.2.2.2) else ((f_X9_takes bytes bytesLong q2.2.1 q2.2.2.1 q2.2.2.2.1 q2.2.2.2.2.1 q2.2.2.2.2.2 (1 : Int32) (0 : Int32) (9 : Int32)).bind fun q4 => (if q4.1 = 0 then some ((0 : Int32), q4.2.1, q4.2.2.1, q4.2.2.2.1, q4.2.2.2.2.1, anew, q4.2.2.2.2.2) else (if ¬ (((5 : Int32) + (q4.2.2.2.2.2 (Int32.toNatClampNeg (0 : Int32)))) < 0 ∨ 106 ≤ (Int32.toNatClampNeg ((5 : Int32) + (q4.2.2.2.2.2 (Int32.toNatClampNeg (0 : Int32)))))) then some ((1 : Int32), q4.2.1, q4.2.2.1, q4.2.2.2.1, q4.2.2.2.2.1, (upd anew (Int32.toNatClampNeg ((5 : Int32) + (q4.2.2.2.2.2 (Int32.toNatClampNeg (0 : Int32))))) (q4.2.2.2.2.2 (Int32.toNatClampNeg (1 : Int32)))), q4.2.2.2.2.2) else none))))))
set_option maxHeartbeats 4000000 in
set_option maxRecDepth 100000 in
theorem c_X9_takesLetter (l : Launch) (D : va_G) (cI cB cZ : ClassId) (a_this : Nat) (a_all : Nat) (a_kept : Nat) (a_isKept : Nat) (a_refused : Nat) (a_hand : Nat) (a_outs : Nat) (a_order0 : Nat) (a_bestOrder : Nat) (a_tells : Nat) (a_bytes : Nat) (a_anew : Nat) (a_values : Nat) (above : Int64) (below_ : Int64) (bytes : (Nat → Int32)) (bytesLong : Int32) (tokenAt : Int32) (tokenLong : Int32) (token : Int32) (value : Int32) (anew : (Nat → Int32)) (values : (Nat → Int32)) (rv : Int32 × Int32 × Int32 × Int32 × Int32 × (Nat → Int32) × (Nat → Int32)) (sz : Nat) (hf : f_X9_takesLetter bytes bytesLong tokenAt tokenLong token value anew values = some rv) : Met l yX9_takesLetter wsX9_takesLetter rm_X9_takesLetter (sPc D vwCl (s_tys cI cB cZ) [.ref a_this] (wd_X9_takesLetter cI cB cZ a_this a_all a_kept a_isKept a_refused a_hand a_outs a_order0 a_bestOrder a_tells a_bytes a_anew a_values above below_ bytes bytesLong tokenAt tokenLong token value anew values) sz) (sQi D vwCl (wd_X9_takesLetter cI cB cZ a_this a_all a_kept a_isKept a_refused a_hand a_outs a_order0 a_bestOrder a_tells a_bytes a_anew a_values above below_ bytes bytesLong tokenAt tokenLong token value anew values) (wd_X9_takesLetter cI cB cZ a_this a_all a_kept a_isKept a_refused a_hand a_outs a_order0 a_bestOrder a_tells a_bytes a_anew a_values above below_ bytes bytesLong rv.2.1 rv.2.2.1 rv.2.2.2.1 rv.2.2.2.2.1 rv.2.2.2.2.2.1 rv.2.2.2.2.2.2) sz rv.1) 0 0 (va_A (wd_X9_takesLetter cI cB cZ a_this a_all a_kept a_isKept a_refused a_hand a_outs a_order0 a_bestOrder a_tells a_bytes a_anew a_values above below_ bytes bytesLong tokenAt tokenLong token value anew values) sz) := by
  refine s_enter_z (cc := cX9_takesLetter) (nL := 1) (r := rv.1) (by decide) rfl (Nat.le_of_ble_eq_true rfl) ?_
  intro p e s m args below meth c A Q C0 hend ls hl hS
  have h := hf
  clear hf
  replace hl : lv_has ls 1 [(0, .ref a_this)] := hl
  unfold f_X9_takesLetter at h
  obtain ⟨hx, hb, hml, hown, hts, hK, hA⟩ := id C0
  have inX9 : ∀ w ∈ u_ws RX9 TX9 19, w ∈ wsX9_takesLetter := inX9_X9_takesLetter
  refine lv_aload_n hx hb dX9_takesLetter_0 rfl (lv_at hl 0 rfl) ?_
  obtain ⟨q1, hq1, h⟩ := s_bind h
  refine r_callvV (As := []) (rest := []) (wc := (wd_X9_goBehind cI cB cZ a_this a_all a_kept a_isKept a_refused a_hand a_outs a_order0 a_bestOrder a_tells a_bytes a_anew a_values above below_ bytes bytesLong tokenAt tokenLong token value)) (w1 := (wd_X9_goBehind cI cB cZ a_this a_all a_kept a_isKept a_refused a_hand a_outs a_order0 a_bestOrder a_tells a_bytes a_anew a_values above below_ bytes bytesLong q1.1 q1.2.1 q1.2.2.1 q1.2.2.2)) (ws' := (wd_X9_takesLetter cI cB cZ a_this a_all a_kept a_isKept a_refused a_hand a_outs a_order0 a_bestOrder a_tells a_bytes a_anew a_values above below_ bytes bytesLong q1.1 q1.2.1 q1.2.2.1 q1.2.2.2 anew values)) hx hb hml hown hts hK hA hl hS (c_X9_goBehind l D cI cB cZ a_this a_all a_kept a_isKept a_refused a_hand a_outs a_order0 a_bestOrder a_tells a_bytes a_anew a_values above below_ bytes bytesLong tokenAt tokenLong token value _ _ hq1) (cwV 0 hts gX9_takesLetter_X9_goBehind rfl rfl rfl (by decide +kernel) ⟨Nat.le_of_ble_eq_true rfl, Nat.le_of_ble_eq_true rfl⟩) 0 rfl rfl [0, 1] rfl rfl rfl [.inr 0, .inr 1, .inl 2, .inl 3] rfl rfl rfl rfl (Nat.le_of_ble_eq_true rfl) dX9_takesLetter_1 (fun H locs hS => ?_)
  refine lv_aload_n hx hb dX9_takesLetter_4 rfl (lv_at hl 0 rfl) ?_
  refine lv_iconst (v := (0 : Int32)) hx hb dX9_takesLetter_5 (by decide) ?_
  refine lv_iconst (v := (0 : Int32)) hx hb dX9_takesLetter_6 (by decide) ?_
  refine lv_aload_n hx hb dX9_takesLetter_7 rfl (lv_at hl 0 rfl) ?_
  refine s_get (C := RX9) (T := TX9) (N := 19) hx hb hts inX9 hown hK hS 0 rfl rfl 17 (by decide) (hts (.fieldLink RX9 45 "InnTurnedModel" "anew" "[I") (List.mem_of_getElem? (i := 1) rfl)) rfl rfl dX9_takesLetter_8 ?_
  refine lv_iconst (v := (0 : Int32)) hx hb dX9_takesLetter_11 (by decide) ?_
  refine s_iald hx hb hK hS 2 rfl rfl (by decide) dX9_takesLetter_12 ?_
  refine lv_iconst (v := (1 : Int32)) hx hb dX9_takesLetter_13 (by decide) ?_
  refine lv_isub hx hb dX9_takesLetter_14 ?_
  obtain ⟨q2, hq2, h⟩ := s_bind h
  refine r_calliV (r := q2.1) (As := [.int (0 : Int32), .int (0 : Int32), .int ((anew (Int32.toNatClampNeg (0 : Int32))) - (1 : Int32))]) (rest := []) (wc := (wd_X9_takes cI cB cZ a_this a_all a_kept a_isKept a_refused a_hand a_outs a_order0 a_bestOrder a_tells a_bytes a_anew a_values above below_ bytes bytesLong q1.1 q1.2.1 q1.2.2.1 q1.2.2.2 values)) (w1 := (wd_X9_takes cI cB cZ a_this a_all a_kept a_isKept a_refused a_hand a_outs a_order0 a_bestOrder a_tells a_bytes a_anew a_values above below_ bytes bytesLong q2.2.1 q2.2.2.1 q2.2.2.2.1 q2.2.2.2.2.1 q2.2.2.2.2.2)) (ws' := (wd_X9_takesLetter cI cB cZ a_this a_all a_kept a_isKept a_refused a_hand a_outs a_order0 a_bestOrder a_tells a_bytes a_anew a_values above below_ bytes bytesLong q2.2.1 q2.2.2.1 q2.2.2.2.1 q2.2.2.2.2.1 anew q2.2.2.2.2.2)) hx hb hml hown hts hK hA hl hS (c_X9_takes l D cI cB cZ a_this a_all a_kept a_isKept a_refused a_hand a_outs a_order0 a_bestOrder a_tells a_bytes a_anew a_values above below_ bytes bytesLong q1.1 q1.2.1 q1.2.2.1 q1.2.2.2 values (0 : Int32) (0 : Int32) ((anew (Int32.toNatClampNeg (0 : Int32))) - (1 : Int32)) _ _ hq2) (cwV 3 hts gX9_takesLetter_X9_takes rfl rfl rfl (by decide +kernel) ⟨Nat.le_of_ble_eq_true rfl, Nat.le_of_ble_eq_true rfl⟩) 0 rfl rfl [0, 1, 3] rfl rfl rfl [.inr 0, .inr 1, .inl 2, .inr 2] rfl rfl rfl rfl (Nat.le_of_ble_eq_true rfl) dX9_takesLetter_15 (fun H locs hS => ?_)
  refine lv_if_eq (tgt := 32) hx hb dX9_takesLetter_18 (by decide) (fun c3 => ?_) (fun c3 => ?_)
  · replace h := s_yes c3 h
    refine lv_iconst (v := (0 : Int32)) hx hb dX9_takesLetter_32 (by decide) ?_
    obtain rfl := Option.some.inj h
    exact hend _ _ _ _ dX9_takesLetter_33 (Or.inl rfl) hS
  replace h := s_no c3 h
  refine lv_aload_n hx hb dX9_takesLetter_21 rfl (lv_at hl 0 rfl) ?_
  refine lv_iconst (v := (1 : Int32)) hx hb dX9_takesLetter_22 (by decide) ?_
  refine lv_iconst (v := (0 : Int32)) hx hb dX9_takesLetter_23 (by decide) ?_
  refine lv_bipush (v := (9 : Int32)) hx hb dX9_takesLetter_24 (by decide) ?_
  obtain ⟨q4, hq4, h⟩ := s_bind h
  refine r_calliV (r := q4.1) (As := [.int (1 : Int32), .int (0 : Int32), .int (9 : Int32)]) (rest := []) (wc := (wd_X9_takes cI cB cZ a_this a_all a_kept a_isKept a_refused a_hand a_outs a_order0 a_bestOrder a_tells a_bytes a_anew a_values above below_ bytes bytesLong q2.2.1 q2.2.2.1 q2.2.2.2.1 q2.2.2.2.2.1 q2.2.2.2.2.2)) (w1 := (wd_X9_takes cI cB cZ a_this a_all a_kept a_isKept a_refused a_hand a_outs a_order0 a_bestOrder a_tells a_bytes a_anew a_values above below_ bytes bytesLong q4.2.1 q4.2.2.1 q4.2.2.2.1 q4.2.2.2.2.1 q4.2.2.2.2.2)) (ws' := (wd_X9_takesLetter cI cB cZ a_this a_all a_kept a_isKept a_refused a_hand a_outs a_order0 a_bestOrder a_tells a_bytes a_anew a_values above below_ bytes bytesLong q4.2.1 q4.2.2.1 q4.2.2.2.1 q4.2.2.2.2.1 anew q4.2.2.2.2.2)) hx hb hml hown hts hK hA hl hS (c_X9_takes l D cI cB cZ a_this a_all a_kept a_isKept a_refused a_hand a_outs a_order0 a_bestOrder a_tells a_bytes a_anew a_values above below_ bytes bytesLong q2.2.1 q2.2.2.1 q2.2.2.2.1 q2.2.2.2.2.1 q2.2.2.2.2.2 (1 : Int32) (0 : Int32) (9 : Int32) _ _ hq4) (cwV 3 hts gX9_takesLetter_X9_takes rfl rfl rfl (by decide +kernel) ⟨Nat.le_of_ble_eq_true rfl, Nat.le_of_ble_eq_true rfl⟩) 0 rfl rfl [0, 1, 3] rfl rfl rfl [.inr 0, .inr 1, .inl 2, .inr 2] rfl rfl rfl rfl (Nat.le_of_ble_eq_true rfl) dX9_takesLetter_26 (fun H locs hS => ?_)
  refine lv_if_ne (tgt := 34) hx hb dX9_takesLetter_29 (by decide) (fun c5 => ?_) (fun c5 => ?_)
  · replace h := s_no c5 h
    refine lv_aload_n hx hb dX9_takesLetter_34 rfl (lv_at hl 0 rfl) ?_
    refine s_get (C := RX9) (T := TX9) (N := 19) hx hb hts inX9 hown hK hS 0 rfl rfl 17 (by decide) (hts (.fieldLink RX9 45 "InnTurnedModel" "anew" "[I") (List.mem_of_getElem? (i := 1) rfl)) rfl rfl dX9_takesLetter_35 ?_
    refine lv_iconst (v := (5 : Int32)) hx hb dX9_takesLetter_38 (by decide) ?_
    refine lv_aload_n hx hb dX9_takesLetter_39 rfl (lv_at hl 0 rfl) ?_
    refine s_get (C := RX9) (T := TX9) (N := 19) hx hb hts inX9 hown hK hS 0 rfl rfl 18 (by decide) (hts (.fieldLink RX9 48 "InnTurnedModel" "values" "[I") (List.mem_of_getElem? (i := 2) rfl)) rfl rfl dX9_takesLetter_40 ?_
    refine lv_iconst (v := (0 : Int32)) hx hb dX9_takesLetter_43 (by decide) ?_
    refine s_iald hx hb hK hS 3 rfl rfl (by decide) dX9_takesLetter_44 ?_
    refine lv_iadd hx hb dX9_takesLetter_45 ?_
    refine lv_aload_n hx hb dX9_takesLetter_46 rfl (lv_at hl 0 rfl) ?_
    refine s_get (C := RX9) (T := TX9) (N := 19) hx hb hts inX9 hown hK hS 0 rfl rfl 18 (by decide) (hts (.fieldLink RX9 48 "InnTurnedModel" "values" "[I") (List.mem_of_getElem? (i := 2) rfl)) rfl rfl dX9_takesLetter_47 ?_
    refine lv_iconst (v := (1 : Int32)) hx hb dX9_takesLetter_50 (by decide) ?_
    refine s_iald hx hb hK hS 3 rfl rfl (by decide) dX9_takesLetter_51 ?_
    obtain ⟨g6, h⟩ := s_guard h
    refine s_iast (ws' := (wd_X9_takesLetter cI cB cZ a_this a_all a_kept a_isKept a_refused a_hand a_outs a_order0 a_bestOrder a_tells a_bytes a_anew a_values above below_ bytes bytesLong q4.2.1 q4.2.2.1 q4.2.2.2.1 q4.2.2.2.2.1 (upd anew (Int32.toNatClampNeg ((5 : Int32) + (q4.2.2.2.2.2 (Int32.toNatClampNeg (0 : Int32))))) (q4.2.2.2.2.2 (Int32.toNatClampNeg (1 : Int32)))) q4.2.2.2.2.2)) hx hb hK hS 2 rfl rfl g6 rfl dX9_takesLetter_52 (fun H locs hS => ?_)
    refine lv_iconst (v := (1 : Int32)) hx hb dX9_takesLetter_53 (by decide) ?_
    obtain rfl := Option.some.inj h
    exact hend _ _ _ _ dX9_takesLetter_54 (Or.inr rfl) hS
  replace h := s_yes c5 h
  refine lv_iconst (v := (0 : Int32)) hx hb dX9_takesLetter_32 (by decide) ?_
  obtain rfl := Option.some.inj h
  exact hend _ _ _ _ dX9_takesLetter_33 (Or.inl rfl) hS

-- InnTurnedModel.takesNights()Z
def wd_X9_takesNights (cI cB cZ : ClassId) (a_this : Nat) (a_all : Nat) (a_kept : Nat) (a_isKept : Nat) (a_refused : Nat) (a_hand : Nat) (a_outs : Nat) (a_order0 : Nat) (a_bestOrder : Nat) (a_tells : Nat) (a_bytes : Nat) (a_anew : Nat) (a_values : Nat)  (above : Int64) (below_ : Int64) (bytes : (Nat → Int32)) (bytesLong : Int32) (tokenAt : Int32) (tokenLong : Int32) (token : Int32) (value : Int32) (anew : (Nat → Int32)) (values : (Nat → Int32)) : va_W := [(a_this, .inr (6, [.ref a_all, .ref a_kept, .ref a_isKept, .ref a_refused, .long above, .long below_, .ref a_hand, .ref a_outs, .ref a_order0, .ref a_bestOrder, .ref a_tells, .ref a_bytes, .int bytesLong, .int tokenAt, .int tokenLong, .int token, .int value, .ref a_anew, .ref a_values])), (a_bytes, .inl (cI, 150, .inl bytes)), (a_anew, .inl (cI, 106, .inl anew)), (a_values, .inl (cI, 2, .inl values))]
abbrev rm_X9_takesNights : Room := { frames := 5, cells := 0, slots := 0, locals := 112 }
set_option maxRecDepth 20000 in
theorem inX9_X9_takesNights : ∀ w ∈ u_ws RX9 TX9 19, w ∈ wsX9_takesNights := by decide +kernel
def f_X9_takesNights  (bytes : (Nat → Int32)) (bytesLong : Int32) (tokenAt : Int32) (tokenLong : Int32) (token : Int32) (value : Int32) (anew : (Nat → Int32)) (values : (Nat → Int32)) : Option (Int32 × Int32 × Int32 × Int32 × Int32 × (Nat → Int32) × (Nat → Int32)) := ((f_X9_goBehind bytes bytesLong tokenAt tokenLong token value).bind fun q1 => ((f_X9_takes bytes bytesLong q1.1 q1.2.1 q1.2.2.1 q1.2.2.2 values (0 : Int32) (1 : Int32) (99 : Int32)).bind fun q2 => (if q2.1 = 0 then some ((0 : Int32), q2.2.1, q2.2.2.1, q2.2.2.2.1, q2.2.2.2.2.1, anew, q2.2.2.2.2.2) else ((f_X9_goNights 106 anew (q2.2.2.2.2.2 (Int32.toNatClampNeg (0 : Int32)))).bind fun q4 => some ((1 : Int32), q2.2.1, q2.2.2.1, q2.2.2.2.1, q2.2.2.2.2.1, q4, q2.2.2.2.2.2)))))
set_option maxHeartbeats 4000000 in
set_option maxRecDepth 100000 in
theorem c_X9_takesNights (l : Launch) (D : va_G) (cI cB cZ : ClassId) (a_this : Nat) (a_all : Nat) (a_kept : Nat) (a_isKept : Nat) (a_refused : Nat) (a_hand : Nat) (a_outs : Nat) (a_order0 : Nat) (a_bestOrder : Nat) (a_tells : Nat) (a_bytes : Nat) (a_anew : Nat) (a_values : Nat) (above : Int64) (below_ : Int64) (bytes : (Nat → Int32)) (bytesLong : Int32) (tokenAt : Int32) (tokenLong : Int32) (token : Int32) (value : Int32) (anew : (Nat → Int32)) (values : (Nat → Int32)) (rv : Int32 × Int32 × Int32 × Int32 × Int32 × (Nat → Int32) × (Nat → Int32)) (sz : Nat) (hf : f_X9_takesNights bytes bytesLong tokenAt tokenLong token value anew values = some rv) : Met l yX9_takesNights wsX9_takesNights rm_X9_takesNights (sPc D vwCl (s_tys cI cB cZ) [.ref a_this] (wd_X9_takesNights cI cB cZ a_this a_all a_kept a_isKept a_refused a_hand a_outs a_order0 a_bestOrder a_tells a_bytes a_anew a_values above below_ bytes bytesLong tokenAt tokenLong token value anew values) sz) (sQi D vwCl (wd_X9_takesNights cI cB cZ a_this a_all a_kept a_isKept a_refused a_hand a_outs a_order0 a_bestOrder a_tells a_bytes a_anew a_values above below_ bytes bytesLong tokenAt tokenLong token value anew values) (wd_X9_takesNights cI cB cZ a_this a_all a_kept a_isKept a_refused a_hand a_outs a_order0 a_bestOrder a_tells a_bytes a_anew a_values above below_ bytes bytesLong rv.2.1 rv.2.2.1 rv.2.2.2.1 rv.2.2.2.2.1 rv.2.2.2.2.2.1 rv.2.2.2.2.2.2) sz rv.1) 0 0 (va_A (wd_X9_takesNights cI cB cZ a_this a_all a_kept a_isKept a_refused a_hand a_outs a_order0 a_bestOrder a_tells a_bytes a_anew a_values above below_ bytes bytesLong tokenAt tokenLong token value anew values) sz) := by
  refine s_enter_z (cc := cX9_takesNights) (nL := 1) (r := rv.1) (by decide) rfl (Nat.le_of_ble_eq_true rfl) ?_
  intro p e s m args below meth c A Q C0 hend ls hl hS
  have h := hf
  clear hf
  replace hl : lv_has ls 1 [(0, .ref a_this)] := hl
  unfold f_X9_takesNights at h
  obtain ⟨hx, hb, hml, hown, hts, hK, hA⟩ := id C0
  have inX9 : ∀ w ∈ u_ws RX9 TX9 19, w ∈ wsX9_takesNights := inX9_X9_takesNights
  refine lv_aload_n hx hb dX9_takesNights_0 rfl (lv_at hl 0 rfl) ?_
  obtain ⟨q1, hq1, h⟩ := s_bind h
  refine r_callvV (As := []) (rest := []) (wc := (wd_X9_goBehind cI cB cZ a_this a_all a_kept a_isKept a_refused a_hand a_outs a_order0 a_bestOrder a_tells a_bytes a_anew a_values above below_ bytes bytesLong tokenAt tokenLong token value)) (w1 := (wd_X9_goBehind cI cB cZ a_this a_all a_kept a_isKept a_refused a_hand a_outs a_order0 a_bestOrder a_tells a_bytes a_anew a_values above below_ bytes bytesLong q1.1 q1.2.1 q1.2.2.1 q1.2.2.2)) (ws' := (wd_X9_takesNights cI cB cZ a_this a_all a_kept a_isKept a_refused a_hand a_outs a_order0 a_bestOrder a_tells a_bytes a_anew a_values above below_ bytes bytesLong q1.1 q1.2.1 q1.2.2.1 q1.2.2.2 anew values)) hx hb hml hown hts hK hA hl hS (c_X9_goBehind l D cI cB cZ a_this a_all a_kept a_isKept a_refused a_hand a_outs a_order0 a_bestOrder a_tells a_bytes a_anew a_values above below_ bytes bytesLong tokenAt tokenLong token value _ _ hq1) (cwV 0 hts gX9_takesNights_X9_goBehind rfl rfl rfl (by decide +kernel) ⟨Nat.le_of_ble_eq_true rfl, Nat.le_of_ble_eq_true rfl⟩) 0 rfl rfl [0, 1] rfl rfl rfl [.inr 0, .inr 1, .inl 2, .inl 3] rfl rfl rfl rfl (Nat.le_of_ble_eq_true rfl) dX9_takesNights_1 (fun H locs hS => ?_)
  refine lv_aload_n hx hb dX9_takesNights_4 rfl (lv_at hl 0 rfl) ?_
  refine lv_iconst (v := (0 : Int32)) hx hb dX9_takesNights_5 (by decide) ?_
  refine lv_iconst (v := (1 : Int32)) hx hb dX9_takesNights_6 (by decide) ?_
  refine lv_bipush (v := (99 : Int32)) hx hb dX9_takesNights_7 (by decide) ?_
  obtain ⟨q2, hq2, h⟩ := s_bind h
  refine r_calliV (r := q2.1) (As := [.int (0 : Int32), .int (1 : Int32), .int (99 : Int32)]) (rest := []) (wc := (wd_X9_takes cI cB cZ a_this a_all a_kept a_isKept a_refused a_hand a_outs a_order0 a_bestOrder a_tells a_bytes a_anew a_values above below_ bytes bytesLong q1.1 q1.2.1 q1.2.2.1 q1.2.2.2 values)) (w1 := (wd_X9_takes cI cB cZ a_this a_all a_kept a_isKept a_refused a_hand a_outs a_order0 a_bestOrder a_tells a_bytes a_anew a_values above below_ bytes bytesLong q2.2.1 q2.2.2.1 q2.2.2.2.1 q2.2.2.2.2.1 q2.2.2.2.2.2)) (ws' := (wd_X9_takesNights cI cB cZ a_this a_all a_kept a_isKept a_refused a_hand a_outs a_order0 a_bestOrder a_tells a_bytes a_anew a_values above below_ bytes bytesLong q2.2.1 q2.2.2.1 q2.2.2.2.1 q2.2.2.2.2.1 anew q2.2.2.2.2.2)) hx hb hml hown hts hK hA hl hS (c_X9_takes l D cI cB cZ a_this a_all a_kept a_isKept a_refused a_hand a_outs a_order0 a_bestOrder a_tells a_bytes a_anew a_values above below_ bytes bytesLong q1.1 q1.2.1 q1.2.2.1 q1.2.2.2 values (0 : Int32) (1 : Int32) (99 : Int32) _ _ hq2) (cwV 3 hts gX9_takesNights_X9_takes rfl rfl rfl (by decide +kernel) ⟨Nat.le_of_ble_eq_true rfl, Nat.le_of_ble_eq_true rfl⟩) 0 rfl rfl [0, 1, 3] rfl rfl rfl [.inr 0, .inr 1, .inl 2, .inr 2] rfl rfl rfl rfl (Nat.le_of_ble_eq_true rfl) dX9_takesNights_9 (fun H locs hS => ?_)
  refine lv_if_ne (tgt := 17) hx hb dX9_takesNights_12 (by decide) (fun c3 => ?_) (fun c3 => ?_)
  · replace h := s_no c3 h
    refine lv_aload_n hx hb dX9_takesNights_17 rfl (lv_at hl 0 rfl) ?_
    refine s_get (C := RX9) (T := TX9) (N := 19) hx hb hts inX9 hown hK hS 0 rfl rfl 17 (by decide) (hts (.fieldLink RX9 45 "InnTurnedModel" "anew" "[I") (List.mem_of_getElem? (i := 1) rfl)) rfl rfl dX9_takesNights_18 ?_
    refine lv_aload_n hx hb dX9_takesNights_21 rfl (lv_at hl 0 rfl) ?_
    refine s_get (C := RX9) (T := TX9) (N := 19) hx hb hts inX9 hown hK hS 0 rfl rfl 18 (by decide) (hts (.fieldLink RX9 48 "InnTurnedModel" "values" "[I") (List.mem_of_getElem? (i := 2) rfl)) rfl rfl dX9_takesNights_22 ?_
    refine lv_iconst (v := (0 : Int32)) hx hb dX9_takesNights_25 (by decide) ?_
    refine s_iald hx hb hK hS 3 rfl rfl (by decide) dX9_takesNights_26 ?_
    obtain ⟨q4, hq4, h⟩ := s_bind h
    refine r_callvS (As := [.ref a_anew, .int (q2.2.2.2.2.2 (Int32.toNatClampNeg (0 : Int32)))]) (rest := []) (wc := (wd_X9_goNights cI cB cZ a_anew 106 anew)) (w1 := (wd_X9_goNights cI cB cZ a_anew 106 q4)) (ws' := (wd_X9_takesNights cI cB cZ a_this a_all a_kept a_isKept a_refused a_hand a_outs a_order0 a_bestOrder a_tells a_bytes a_anew a_values above below_ bytes bytesLong q2.2.1 q2.2.2.1 q2.2.2.2.1 q2.2.2.2.2.1 q4 q2.2.2.2.2.2)) hx hb hml hown hts hK hA hl hS (c_X9_goNights l D cI cB cZ a_anew 106 anew (q2.2.2.2.2.2 (Int32.toNatClampNeg (0 : Int32))) _ _ hq4) (va_cwS 2 hts gX9_takesNights_X9_goNights rfl rfl rfl (by decide +kernel) ⟨Nat.le_of_ble_eq_true rfl, Nat.le_of_ble_eq_true rfl⟩) [2] rfl rfl rfl [.inl 0, .inl 1, .inr 0, .inl 3] rfl rfl rfl rfl (Nat.le_of_ble_eq_true rfl) dX9_takesNights_27 (fun H locs hS => ?_)
    refine lv_iconst (v := (1 : Int32)) hx hb dX9_takesNights_30 (by decide) ?_
    obtain rfl := Option.some.inj h
    exact hend _ _ _ _ dX9_takesNights_31 (Or.inr rfl) hS
  replace h := s_yes c3 h
  refine lv_iconst (v := (0 : Int32)) hx hb dX9_takesNights_15 (by decide) ?_
  obtain rfl := Option.some.inj h
  exact hend _ _ _ _ dX9_takesNights_16 (Or.inl rfl) hS

-- InnTurnedModel.takesItem()Z
def wd_X9_takesItem (cI cB cZ : ClassId) (a_this : Nat) (a_all : Nat) (a_kept : Nat) (a_isKept : Nat) (a_refused : Nat) (a_hand : Nat) (a_outs : Nat) (a_order0 : Nat) (a_bestOrder : Nat) (a_tells : Nat) (a_bytes : Nat) (a_anew : Nat) (a_values : Nat)  (above : Int64) (below_ : Int64) (bytes : (Nat → Int32)) (bytesLong : Int32) (tokenAt : Int32) (tokenLong : Int32) (token : Int32) (value : Int32) (anew : (Nat → Int32)) (values : (Nat → Int32)) : va_W := [(a_this, .inr (6, [.ref a_all, .ref a_kept, .ref a_isKept, .ref a_refused, .long above, .long below_, .ref a_hand, .ref a_outs, .ref a_order0, .ref a_bestOrder, .ref a_tells, .ref a_bytes, .int bytesLong, .int tokenAt, .int tokenLong, .int token, .int value, .ref a_anew, .ref a_values])), (a_bytes, .inl (cI, 150, .inl bytes)), (a_anew, .inl (cI, 106, .inl anew)), (a_values, .inl (cI, 2, .inl values))]
abbrev rm_X9_takesItem : Room := { frames := 6, cells := 0, slots := 0, locals := 133 }
def f_X9_takesItem  (bytes : (Nat → Int32)) (bytesLong : Int32) (tokenAt : Int32) (tokenLong : Int32) (token : Int32) (value : Int32) (anew : (Nat → Int32)) (values : (Nat → Int32)) : Option (Int32 × Int32 × Int32 × Int32 × Int32 × (Nat → Int32) × (Nat → Int32)) := ((f_X9_spells bytes tokenAt tokenLong token (3 : Int32) (119 : Int32) (101 : Int32) (116 : Int32) (0 : Int32) (0 : Int32) (0 : Int32)).bind fun q1 => (if q1 = 0 then ((f_X9_spells bytes tokenAt tokenLong token (3 : Int32) (111 : Int32) (110 : Int32) (101 : Int32) (0 : Int32) (0 : Int32) (0 : Int32)).bind fun q3 => (if q3 = 0 then ((f_X9_spells bytes tokenAt tokenLong token (4 : Int32) (99 : Int32) (111 : Int32) (109 : Int32) (101 : Int32) (0 : Int32) (0 : Int32)).bind fun q5 => (if q5 = 0 then ((f_X9_spells bytes tokenAt tokenLong token (2 : Int32) (103 : Int32) (111 : Int32) (0 : Int32) (0 : Int32) (0 : Int32) (0 : Int32)).bind fun q7 => (if q7 = 0 then ((f_X9_spells bytes tokenAt tokenLong token (6 : Int32) (108 : Int32) (101 : Int32) (116 : Int32) (116 : Int32) (101 : Int32) (114 : Int32)).bind fun q9 => (if q9 = 0 then ((f_X9_spells bytes tokenAt tokenLong token (6 : Int32) (110 : Int32) (105 : Int32) (103 : Int32) (104 : Int32) (116 : Int32) (115 : Int32)).bind fun q11 => (if q11 = 0 then some ((0 : Int32), tokenAt, tokenLong, token, value, anew, values) else ((f_X9_takesNights bytes bytesLong tokenAt tokenLong token value anew values).bind fun q13 => (if q13.1 = 0 then some ((0 : Int32), q13.2.1, q13.2.2.1, q13.2.2.2.1, q13.2.2.2.2.1, q13.2.2.2.2.2.1, q13.2.2.2.2.2.2) else some ((1 : Int32), q13.2.1, q13.2.2.1, q13.2.2.2.1, q13.2.2.2.2.1, q13.2.2.2.2.2.1, q13.2.2.2.2.2.2))))) else ((f_X9_takesLetter bytes bytesLong tokenAt tokenLong token value anew values).bind fun q15 => (if q15.1 = 0 ∨ q15.1 = 1 then some (q15.1, q15.2.1, q15.2.2.1, q15.2.2.2.1, q15.2.2.2.2.1, q15.2.2.2.2.2.1, q15.2.2.2.2.2.2) else none)))) else ((f_X9_takesGo bytes bytesLong tokenAt tokenLong token value anew).bind fun q17 => (if q17.1 = 0 ∨ q17.1 = 1 then some (q17.1, q17.2.1, q17.2.2.1, q17.2.2.2.1, q17.2.2.2.2.1, q17.2.2.2.2.2, values) else none)))) else ((f_X9_takesCome bytes bytesLong tokenAt tokenLong token value anew).bind fun q19 => (if q19.1 = 0 ∨ q19.1 = 1 then some (q19.1, q19.2.1, q19.2.2.1, q19.2.2.2.1, q19.2.2.2.2.1, q19.2.2.2.2.2, values) else none)))) else ((f_X9_takesOne bytes bytesLong tokenAt tokenLong token value anew values).bind fun q21 => (if q21.1 = 0 ∨ q21.1 = 1 then some (q21.1, q21.2.1, q21.2.2.1, q21.2.2.2.1, q21.2.2.2.2.1, q21.2.2.2.2.2.1, q21.2.2.2.2.2.2) else none)))) else ((f_X9_takesWet bytes bytesLong tokenAt tokenLong token value anew values).bind fun q23 => (if q23.1 = 0 ∨ q23.1 = 1 then some (q23.1, q23.2.1, q23.2.2.1, q23.2.2.2.1, q23.2.2.2.2.1, q23.2.2.2.2.2.1, q23.2.2.2.2.2.2) else none))))
set_option maxHeartbeats 4000000 in
set_option maxRecDepth 100000 in
theorem c_X9_takesItem (l : Launch) (D : va_G) (cI cB cZ : ClassId) (a_this : Nat) (a_all : Nat) (a_kept : Nat) (a_isKept : Nat) (a_refused : Nat) (a_hand : Nat) (a_outs : Nat) (a_order0 : Nat) (a_bestOrder : Nat) (a_tells : Nat) (a_bytes : Nat) (a_anew : Nat) (a_values : Nat) (above : Int64) (below_ : Int64) (bytes : (Nat → Int32)) (bytesLong : Int32) (tokenAt : Int32) (tokenLong : Int32) (token : Int32) (value : Int32) (anew : (Nat → Int32)) (values : (Nat → Int32)) (rv : Int32 × Int32 × Int32 × Int32 × Int32 × (Nat → Int32) × (Nat → Int32)) (sz : Nat) (hf : f_X9_takesItem bytes bytesLong tokenAt tokenLong token value anew values = some rv) : Met l yX9_takesItem wsX9_takesItem rm_X9_takesItem (sPc D vwCl (s_tys cI cB cZ) [.ref a_this] (wd_X9_takesItem cI cB cZ a_this a_all a_kept a_isKept a_refused a_hand a_outs a_order0 a_bestOrder a_tells a_bytes a_anew a_values above below_ bytes bytesLong tokenAt tokenLong token value anew values) sz) (sQi D vwCl (wd_X9_takesItem cI cB cZ a_this a_all a_kept a_isKept a_refused a_hand a_outs a_order0 a_bestOrder a_tells a_bytes a_anew a_values above below_ bytes bytesLong tokenAt tokenLong token value anew values) (wd_X9_takesItem cI cB cZ a_this a_all a_kept a_isKept a_refused a_hand a_outs a_order0 a_bestOrder a_tells a_bytes a_anew a_values above below_ bytes bytesLong rv.2.1 rv.2.2.1 rv.2.2.2.1 rv.2.2.2.2.1 rv.2.2.2.2.2.1 rv.2.2.2.2.2.2) sz rv.1) 0 0 (va_A (wd_X9_takesItem cI cB cZ a_this a_all a_kept a_isKept a_refused a_hand a_outs a_order0 a_bestOrder a_tells a_bytes a_anew a_values above below_ bytes bytesLong tokenAt tokenLong token value anew values) sz) := by
  refine s_enter_z (cc := cX9_takesItem) (nL := 1) (r := rv.1) (by decide) rfl (Nat.le_of_ble_eq_true rfl) ?_
  intro p e s m args below meth c A Q C0 hend ls hl hS
  have h := hf
  clear hf
  replace hl : lv_has ls 1 [(0, .ref a_this)] := hl
  unfold f_X9_takesItem at h
  obtain ⟨hx, hb, hml, hown, hts, hK, hA⟩ := id C0
  refine lv_aload_n hx hb dX9_takesItem_0 rfl (lv_at hl 0 rfl) ?_
  refine lv_iconst (v := (3 : Int32)) hx hb dX9_takesItem_1 (by decide) ?_
  refine lv_bipush (v := (119 : Int32)) hx hb dX9_takesItem_2 (by decide) ?_
  refine lv_bipush (v := (101 : Int32)) hx hb dX9_takesItem_4 (by decide) ?_
  refine lv_bipush (v := (116 : Int32)) hx hb dX9_takesItem_6 (by decide) ?_
  refine lv_iconst (v := (0 : Int32)) hx hb dX9_takesItem_8 (by decide) ?_
  refine lv_iconst (v := (0 : Int32)) hx hb dX9_takesItem_9 (by decide) ?_
  refine lv_iconst (v := (0 : Int32)) hx hb dX9_takesItem_10 (by decide) ?_
  obtain ⟨q1, hq1, h⟩ := s_bind h
  refine u_calliV (r := q1) (As := [.int (3 : Int32), .int (119 : Int32), .int (101 : Int32), .int (116 : Int32), .int (0 : Int32), .int (0 : Int32), .int (0 : Int32)]) (rest := []) (wc := (wd_X9_spells cI cB cZ a_this a_all a_kept a_isKept a_refused a_hand a_outs a_order0 a_bestOrder a_tells a_bytes a_anew a_values above below_ bytes bytesLong tokenAt tokenLong token value)) hx hb hml hown hts hK hA hl hS (c_X9_spells l D cI cB cZ a_this a_all a_kept a_isKept a_refused a_hand a_outs a_order0 a_bestOrder a_tells a_bytes a_anew a_values above below_ bytes bytesLong tokenAt tokenLong token value (3 : Int32) (119 : Int32) (101 : Int32) (116 : Int32) (0 : Int32) (0 : Int32) (0 : Int32) _ _ hq1) (cwV 7 hts gX9_takesItem_X9_spells rfl rfl rfl (by decide +kernel) ⟨Nat.le_of_ble_eq_true rfl, Nat.le_of_ble_eq_true rfl⟩) 0 rfl rfl [0, 1] rfl rfl rfl rfl (Nat.le_of_ble_eq_true rfl) dX9_takesItem_11 (fun H locs hS => ?_)
  refine lv_if_eq (tgt := 22) hx hb dX9_takesItem_14 (by decide) (fun c2 => ?_) (fun c2 => ?_)
  · replace h := s_yes c2 h
    refine lv_aload_n hx hb dX9_takesItem_22 rfl (lv_at hl 0 rfl) ?_
    refine lv_iconst (v := (3 : Int32)) hx hb dX9_takesItem_23 (by decide) ?_
    refine lv_bipush (v := (111 : Int32)) hx hb dX9_takesItem_24 (by decide) ?_
    refine lv_bipush (v := (110 : Int32)) hx hb dX9_takesItem_26 (by decide) ?_
    refine lv_bipush (v := (101 : Int32)) hx hb dX9_takesItem_28 (by decide) ?_
    refine lv_iconst (v := (0 : Int32)) hx hb dX9_takesItem_30 (by decide) ?_
    refine lv_iconst (v := (0 : Int32)) hx hb dX9_takesItem_31 (by decide) ?_
    refine lv_iconst (v := (0 : Int32)) hx hb dX9_takesItem_32 (by decide) ?_
    obtain ⟨q3, hq3, h⟩ := s_bind h
    refine u_calliV (r := q3) (As := [.int (3 : Int32), .int (111 : Int32), .int (110 : Int32), .int (101 : Int32), .int (0 : Int32), .int (0 : Int32), .int (0 : Int32)]) (rest := []) (wc := (wd_X9_spells cI cB cZ a_this a_all a_kept a_isKept a_refused a_hand a_outs a_order0 a_bestOrder a_tells a_bytes a_anew a_values above below_ bytes bytesLong tokenAt tokenLong token value)) hx hb hml hown hts hK hA hl hS (c_X9_spells l D cI cB cZ a_this a_all a_kept a_isKept a_refused a_hand a_outs a_order0 a_bestOrder a_tells a_bytes a_anew a_values above below_ bytes bytesLong tokenAt tokenLong token value (3 : Int32) (111 : Int32) (110 : Int32) (101 : Int32) (0 : Int32) (0 : Int32) (0 : Int32) _ _ hq3) (cwV 7 hts gX9_takesItem_X9_spells rfl rfl rfl (by decide +kernel) ⟨Nat.le_of_ble_eq_true rfl, Nat.le_of_ble_eq_true rfl⟩) 0 rfl rfl [0, 1] rfl rfl rfl rfl (Nat.le_of_ble_eq_true rfl) dX9_takesItem_33 (fun H locs hS => ?_)
    refine lv_if_eq (tgt := 44) hx hb dX9_takesItem_36 (by decide) (fun c4 => ?_) (fun c4 => ?_)
    · replace h := s_yes c4 h
      refine lv_aload_n hx hb dX9_takesItem_44 rfl (lv_at hl 0 rfl) ?_
      refine lv_iconst (v := (4 : Int32)) hx hb dX9_takesItem_45 (by decide) ?_
      refine lv_bipush (v := (99 : Int32)) hx hb dX9_takesItem_46 (by decide) ?_
      refine lv_bipush (v := (111 : Int32)) hx hb dX9_takesItem_48 (by decide) ?_
      refine lv_bipush (v := (109 : Int32)) hx hb dX9_takesItem_50 (by decide) ?_
      refine lv_bipush (v := (101 : Int32)) hx hb dX9_takesItem_52 (by decide) ?_
      refine lv_iconst (v := (0 : Int32)) hx hb dX9_takesItem_54 (by decide) ?_
      refine lv_iconst (v := (0 : Int32)) hx hb dX9_takesItem_55 (by decide) ?_
      obtain ⟨q5, hq5, h⟩ := s_bind h
      refine u_calliV (r := q5) (As := [.int (4 : Int32), .int (99 : Int32), .int (111 : Int32), .int (109 : Int32), .int (101 : Int32), .int (0 : Int32), .int (0 : Int32)]) (rest := []) (wc := (wd_X9_spells cI cB cZ a_this a_all a_kept a_isKept a_refused a_hand a_outs a_order0 a_bestOrder a_tells a_bytes a_anew a_values above below_ bytes bytesLong tokenAt tokenLong token value)) hx hb hml hown hts hK hA hl hS (c_X9_spells l D cI cB cZ a_this a_all a_kept a_isKept a_refused a_hand a_outs a_order0 a_bestOrder a_tells a_bytes a_anew a_values above below_ bytes bytesLong tokenAt tokenLong token value (4 : Int32) (99 : Int32) (111 : Int32) (109 : Int32) (101 : Int32) (0 : Int32) (0 : Int32) _ _ hq5) (cwV 7 hts gX9_takesItem_X9_spells rfl rfl rfl (by decide +kernel) ⟨Nat.le_of_ble_eq_true rfl, Nat.le_of_ble_eq_true rfl⟩) 0 rfl rfl [0, 1] rfl rfl rfl rfl (Nat.le_of_ble_eq_true rfl) dX9_takesItem_56 (fun H locs hS => ?_)
      refine lv_if_eq (tgt := 67) hx hb dX9_takesItem_59 (by decide) (fun c6 => ?_) (fun c6 => ?_)
      · replace h := s_yes c6 h
        refine lv_aload_n hx hb dX9_takesItem_67 rfl (lv_at hl 0 rfl) ?_
        refine lv_iconst (v := (2 : Int32)) hx hb dX9_takesItem_68 (by decide) ?_
        refine lv_bipush (v := (103 : Int32)) hx hb dX9_takesItem_69 (by decide) ?_
        refine lv_bipush (v := (111 : Int32)) hx hb dX9_takesItem_71 (by decide) ?_
        refine lv_iconst (v := (0 : Int32)) hx hb dX9_takesItem_73 (by decide) ?_
        refine lv_iconst (v := (0 : Int32)) hx hb dX9_takesItem_74 (by decide) ?_
        refine lv_iconst (v := (0 : Int32)) hx hb dX9_takesItem_75 (by decide) ?_
        refine lv_iconst (v := (0 : Int32)) hx hb dX9_takesItem_76 (by decide) ?_
        obtain ⟨q7, hq7, h⟩ := s_bind h
        refine u_calliV (r := q7) (As := [.int (2 : Int32), .int (103 : Int32), .int (111 : Int32), .int (0 : Int32), .int (0 : Int32), .int (0 : Int32), .int (0 : Int32)]) (rest := []) (wc := (wd_X9_spells cI cB cZ a_this a_all a_kept a_isKept a_refused a_hand a_outs a_order0 a_bestOrder a_tells a_bytes a_anew a_values above below_ bytes bytesLong tokenAt tokenLong token value)) hx hb hml hown hts hK hA hl hS (c_X9_spells l D cI cB cZ a_this a_all a_kept a_isKept a_refused a_hand a_outs a_order0 a_bestOrder a_tells a_bytes a_anew a_values above below_ bytes bytesLong tokenAt tokenLong token value (2 : Int32) (103 : Int32) (111 : Int32) (0 : Int32) (0 : Int32) (0 : Int32) (0 : Int32) _ _ hq7) (cwV 7 hts gX9_takesItem_X9_spells rfl rfl rfl (by decide +kernel) ⟨Nat.le_of_ble_eq_true rfl, Nat.le_of_ble_eq_true rfl⟩) 0 rfl rfl [0, 1] rfl rfl rfl rfl (Nat.le_of_ble_eq_true rfl) dX9_takesItem_77 (fun H locs hS => ?_)
        refine lv_if_eq (tgt := 88) hx hb dX9_takesItem_80 (by decide) (fun c8 => ?_) (fun c8 => ?_)
        · replace h := s_yes c8 h
          refine lv_aload_n hx hb dX9_takesItem_88 rfl (lv_at hl 0 rfl) ?_
          refine lv_bipush (v := (6 : Int32)) hx hb dX9_takesItem_89 (by decide) ?_
          refine lv_bipush (v := (108 : Int32)) hx hb dX9_takesItem_91 (by decide) ?_
          refine lv_bipush (v := (101 : Int32)) hx hb dX9_takesItem_93 (by decide) ?_
          refine lv_bipush (v := (116 : Int32)) hx hb dX9_takesItem_95 (by decide) ?_
          refine lv_bipush (v := (116 : Int32)) hx hb dX9_takesItem_97 (by decide) ?_
          refine lv_bipush (v := (101 : Int32)) hx hb dX9_takesItem_99 (by decide) ?_
          refine lv_bipush (v := (114 : Int32)) hx hb dX9_takesItem_101 (by decide) ?_
          obtain ⟨q9, hq9, h⟩ := s_bind h
          refine u_calliV (r := q9) (As := [.int (6 : Int32), .int (108 : Int32), .int (101 : Int32), .int (116 : Int32), .int (116 : Int32), .int (101 : Int32), .int (114 : Int32)]) (rest := []) (wc := (wd_X9_spells cI cB cZ a_this a_all a_kept a_isKept a_refused a_hand a_outs a_order0 a_bestOrder a_tells a_bytes a_anew a_values above below_ bytes bytesLong tokenAt tokenLong token value)) hx hb hml hown hts hK hA hl hS (c_X9_spells l D cI cB cZ a_this a_all a_kept a_isKept a_refused a_hand a_outs a_order0 a_bestOrder a_tells a_bytes a_anew a_values above below_ bytes bytesLong tokenAt tokenLong token value (6 : Int32) (108 : Int32) (101 : Int32) (116 : Int32) (116 : Int32) (101 : Int32) (114 : Int32) _ _ hq9) (cwV 7 hts gX9_takesItem_X9_spells rfl rfl rfl (by decide +kernel) ⟨Nat.le_of_ble_eq_true rfl, Nat.le_of_ble_eq_true rfl⟩) 0 rfl rfl [0, 1] rfl rfl rfl rfl (Nat.le_of_ble_eq_true rfl) dX9_takesItem_103 (fun H locs hS => ?_)
          refine lv_if_eq (tgt := 114) hx hb dX9_takesItem_106 (by decide) (fun c10 => ?_) (fun c10 => ?_)
          · replace h := s_yes c10 h
            refine lv_aload_n hx hb dX9_takesItem_114 rfl (lv_at hl 0 rfl) ?_
            refine lv_bipush (v := (6 : Int32)) hx hb dX9_takesItem_115 (by decide) ?_
            refine lv_bipush (v := (110 : Int32)) hx hb dX9_takesItem_117 (by decide) ?_
            refine lv_bipush (v := (105 : Int32)) hx hb dX9_takesItem_119 (by decide) ?_
            refine lv_bipush (v := (103 : Int32)) hx hb dX9_takesItem_121 (by decide) ?_
            refine lv_bipush (v := (104 : Int32)) hx hb dX9_takesItem_123 (by decide) ?_
            refine lv_bipush (v := (116 : Int32)) hx hb dX9_takesItem_125 (by decide) ?_
            refine lv_bipush (v := (115 : Int32)) hx hb dX9_takesItem_127 (by decide) ?_
            obtain ⟨q11, hq11, h⟩ := s_bind h
            refine u_calliV (r := q11) (As := [.int (6 : Int32), .int (110 : Int32), .int (105 : Int32), .int (103 : Int32), .int (104 : Int32), .int (116 : Int32), .int (115 : Int32)]) (rest := []) (wc := (wd_X9_spells cI cB cZ a_this a_all a_kept a_isKept a_refused a_hand a_outs a_order0 a_bestOrder a_tells a_bytes a_anew a_values above below_ bytes bytesLong tokenAt tokenLong token value)) hx hb hml hown hts hK hA hl hS (c_X9_spells l D cI cB cZ a_this a_all a_kept a_isKept a_refused a_hand a_outs a_order0 a_bestOrder a_tells a_bytes a_anew a_values above below_ bytes bytesLong tokenAt tokenLong token value (6 : Int32) (110 : Int32) (105 : Int32) (103 : Int32) (104 : Int32) (116 : Int32) (115 : Int32) _ _ hq11) (cwV 7 hts gX9_takesItem_X9_spells rfl rfl rfl (by decide +kernel) ⟨Nat.le_of_ble_eq_true rfl, Nat.le_of_ble_eq_true rfl⟩) 0 rfl rfl [0, 1] rfl rfl rfl rfl (Nat.le_of_ble_eq_true rfl) dX9_takesItem_129 (fun H locs hS => ?_)
            refine lv_if_eq (tgt := 146) hx hb dX9_takesItem_132 (by decide) (fun c12 => ?_) (fun c12 => ?_)
            · replace h := s_yes c12 h
              refine lv_iconst (v := (0 : Int32)) hx hb dX9_takesItem_146 (by decide) ?_
              obtain rfl := Option.some.inj h
              exact hend _ _ _ _ dX9_takesItem_147 (Or.inl rfl) hS
            replace h := s_no c12 h
            refine lv_aload_n hx hb dX9_takesItem_135 rfl (lv_at hl 0 rfl) ?_
            obtain ⟨q13, hq13, h⟩ := s_bind h
            refine r_calliV (r := q13.1) (As := []) (rest := []) (wc := (wd_X9_takesNights cI cB cZ a_this a_all a_kept a_isKept a_refused a_hand a_outs a_order0 a_bestOrder a_tells a_bytes a_anew a_values above below_ bytes bytesLong tokenAt tokenLong token value anew values)) (w1 := (wd_X9_takesNights cI cB cZ a_this a_all a_kept a_isKept a_refused a_hand a_outs a_order0 a_bestOrder a_tells a_bytes a_anew a_values above below_ bytes bytesLong q13.2.1 q13.2.2.1 q13.2.2.2.1 q13.2.2.2.2.1 q13.2.2.2.2.2.1 q13.2.2.2.2.2.2)) (ws' := (wd_X9_takesItem cI cB cZ a_this a_all a_kept a_isKept a_refused a_hand a_outs a_order0 a_bestOrder a_tells a_bytes a_anew a_values above below_ bytes bytesLong q13.2.1 q13.2.2.1 q13.2.2.2.1 q13.2.2.2.2.1 q13.2.2.2.2.2.1 q13.2.2.2.2.2.2)) hx hb hml hown hts hK hA hl hS (c_X9_takesNights l D cI cB cZ a_this a_all a_kept a_isKept a_refused a_hand a_outs a_order0 a_bestOrder a_tells a_bytes a_anew a_values above below_ bytes bytesLong tokenAt tokenLong token value anew values _ _ hq13) (cwV 0 hts gX9_takesItem_X9_takesNights rfl rfl rfl (by decide +kernel) ⟨Nat.le_of_ble_eq_true rfl, Nat.le_of_ble_eq_true rfl⟩) 0 rfl rfl [0, 1, 2, 3] rfl rfl rfl [.inr 0, .inr 1, .inr 2, .inr 3] rfl rfl rfl rfl (Nat.le_of_ble_eq_true rfl) dX9_takesItem_136 (fun H locs hS => ?_)
            refine lv_if_eq (tgt := 146) hx hb dX9_takesItem_139 (by decide) (fun c14 => ?_) (fun c14 => ?_)
            · replace h := s_yes c14 h
              refine lv_iconst (v := (0 : Int32)) hx hb dX9_takesItem_146 (by decide) ?_
              obtain rfl := Option.some.inj h
              exact hend _ _ _ _ dX9_takesItem_147 (Or.inl rfl) hS
            replace h := s_no c14 h
            refine lv_iconst (v := (1 : Int32)) hx hb dX9_takesItem_142 (by decide) ?_
            refine lv_goto (tgt := 147) hx hb dX9_takesItem_143 (by decide) ?_
            obtain rfl := Option.some.inj h
            exact hend _ _ _ _ dX9_takesItem_147 (Or.inr rfl) hS
          replace h := s_no c10 h
          refine lv_aload_n hx hb dX9_takesItem_109 rfl (lv_at hl 0 rfl) ?_
          obtain ⟨q15, hq15, h⟩ := s_bind h
          refine r_calliV (r := q15.1) (As := []) (rest := []) (wc := (wd_X9_takesLetter cI cB cZ a_this a_all a_kept a_isKept a_refused a_hand a_outs a_order0 a_bestOrder a_tells a_bytes a_anew a_values above below_ bytes bytesLong tokenAt tokenLong token value anew values)) (w1 := (wd_X9_takesLetter cI cB cZ a_this a_all a_kept a_isKept a_refused a_hand a_outs a_order0 a_bestOrder a_tells a_bytes a_anew a_values above below_ bytes bytesLong q15.2.1 q15.2.2.1 q15.2.2.2.1 q15.2.2.2.2.1 q15.2.2.2.2.2.1 q15.2.2.2.2.2.2)) (ws' := (wd_X9_takesItem cI cB cZ a_this a_all a_kept a_isKept a_refused a_hand a_outs a_order0 a_bestOrder a_tells a_bytes a_anew a_values above below_ bytes bytesLong q15.2.1 q15.2.2.1 q15.2.2.2.1 q15.2.2.2.2.1 q15.2.2.2.2.2.1 q15.2.2.2.2.2.2)) hx hb hml hown hts hK hA hl hS (c_X9_takesLetter l D cI cB cZ a_this a_all a_kept a_isKept a_refused a_hand a_outs a_order0 a_bestOrder a_tells a_bytes a_anew a_values above below_ bytes bytesLong tokenAt tokenLong token value anew values _ _ hq15) (cwV 0 hts gX9_takesItem_X9_takesLetter rfl rfl rfl (by decide +kernel) ⟨Nat.le_of_ble_eq_true rfl, Nat.le_of_ble_eq_true rfl⟩) 0 rfl rfl [0, 1, 2, 3] rfl rfl rfl [.inr 0, .inr 1, .inr 2, .inr 3] rfl rfl rfl rfl (Nat.le_of_ble_eq_true rfl) dX9_takesItem_110 (fun H locs hS => ?_)
          obtain ⟨g16, h⟩ := s_guard h
          obtain rfl := Option.some.inj h
          exact hend _ _ _ _ dX9_takesItem_113 g16 hS
        replace h := s_no c8 h
        refine lv_aload_n hx hb dX9_takesItem_83 rfl (lv_at hl 0 rfl) ?_
        obtain ⟨q17, hq17, h⟩ := s_bind h
        refine r_calliV (r := q17.1) (As := []) (rest := []) (wc := (wd_X9_takesGo cI cB cZ a_this a_all a_kept a_isKept a_refused a_hand a_outs a_order0 a_bestOrder a_tells a_bytes a_anew a_values above below_ bytes bytesLong tokenAt tokenLong token value anew)) (w1 := (wd_X9_takesGo cI cB cZ a_this a_all a_kept a_isKept a_refused a_hand a_outs a_order0 a_bestOrder a_tells a_bytes a_anew a_values above below_ bytes bytesLong q17.2.1 q17.2.2.1 q17.2.2.2.1 q17.2.2.2.2.1 q17.2.2.2.2.2)) (ws' := (wd_X9_takesItem cI cB cZ a_this a_all a_kept a_isKept a_refused a_hand a_outs a_order0 a_bestOrder a_tells a_bytes a_anew a_values above below_ bytes bytesLong q17.2.1 q17.2.2.1 q17.2.2.2.1 q17.2.2.2.2.1 q17.2.2.2.2.2 values)) hx hb hml hown hts hK hA hl hS (c_X9_takesGo l D cI cB cZ a_this a_all a_kept a_isKept a_refused a_hand a_outs a_order0 a_bestOrder a_tells a_bytes a_anew a_values above below_ bytes bytesLong tokenAt tokenLong token value anew _ _ hq17) (cwV 0 hts gX9_takesItem_X9_takesGo rfl rfl rfl (by decide +kernel) ⟨Nat.le_of_ble_eq_true rfl, Nat.le_of_ble_eq_true rfl⟩) 0 rfl rfl [0, 1, 2] rfl rfl rfl [.inr 0, .inr 1, .inr 2, .inl 3] rfl rfl rfl rfl (Nat.le_of_ble_eq_true rfl) dX9_takesItem_84 (fun H locs hS => ?_)
        obtain ⟨g18, h⟩ := s_guard h
        obtain rfl := Option.some.inj h
        exact hend _ _ _ _ dX9_takesItem_87 g18 hS
      replace h := s_no c6 h
      refine lv_aload_n hx hb dX9_takesItem_62 rfl (lv_at hl 0 rfl) ?_
      obtain ⟨q19, hq19, h⟩ := s_bind h
      refine r_calliV (r := q19.1) (As := []) (rest := []) (wc := (wd_X9_takesCome cI cB cZ a_this a_all a_kept a_isKept a_refused a_hand a_outs a_order0 a_bestOrder a_tells a_bytes a_anew a_values above below_ bytes bytesLong tokenAt tokenLong token value anew)) (w1 := (wd_X9_takesCome cI cB cZ a_this a_all a_kept a_isKept a_refused a_hand a_outs a_order0 a_bestOrder a_tells a_bytes a_anew a_values above below_ bytes bytesLong q19.2.1 q19.2.2.1 q19.2.2.2.1 q19.2.2.2.2.1 q19.2.2.2.2.2)) (ws' := (wd_X9_takesItem cI cB cZ a_this a_all a_kept a_isKept a_refused a_hand a_outs a_order0 a_bestOrder a_tells a_bytes a_anew a_values above below_ bytes bytesLong q19.2.1 q19.2.2.1 q19.2.2.2.1 q19.2.2.2.2.1 q19.2.2.2.2.2 values)) hx hb hml hown hts hK hA hl hS (c_X9_takesCome l D cI cB cZ a_this a_all a_kept a_isKept a_refused a_hand a_outs a_order0 a_bestOrder a_tells a_bytes a_anew a_values above below_ bytes bytesLong tokenAt tokenLong token value anew _ _ hq19) (cwV 0 hts gX9_takesItem_X9_takesCome rfl rfl rfl (by decide +kernel) ⟨Nat.le_of_ble_eq_true rfl, Nat.le_of_ble_eq_true rfl⟩) 0 rfl rfl [0, 1, 2] rfl rfl rfl [.inr 0, .inr 1, .inr 2, .inl 3] rfl rfl rfl rfl (Nat.le_of_ble_eq_true rfl) dX9_takesItem_63 (fun H locs hS => ?_)
      obtain ⟨g20, h⟩ := s_guard h
      obtain rfl := Option.some.inj h
      exact hend _ _ _ _ dX9_takesItem_66 g20 hS
    replace h := s_no c4 h
    refine lv_aload_n hx hb dX9_takesItem_39 rfl (lv_at hl 0 rfl) ?_
    obtain ⟨q21, hq21, h⟩ := s_bind h
    refine r_calliV (r := q21.1) (As := []) (rest := []) (wc := (wd_X9_takesOne cI cB cZ a_this a_all a_kept a_isKept a_refused a_hand a_outs a_order0 a_bestOrder a_tells a_bytes a_anew a_values above below_ bytes bytesLong tokenAt tokenLong token value anew values)) (w1 := (wd_X9_takesOne cI cB cZ a_this a_all a_kept a_isKept a_refused a_hand a_outs a_order0 a_bestOrder a_tells a_bytes a_anew a_values above below_ bytes bytesLong q21.2.1 q21.2.2.1 q21.2.2.2.1 q21.2.2.2.2.1 q21.2.2.2.2.2.1 q21.2.2.2.2.2.2)) (ws' := (wd_X9_takesItem cI cB cZ a_this a_all a_kept a_isKept a_refused a_hand a_outs a_order0 a_bestOrder a_tells a_bytes a_anew a_values above below_ bytes bytesLong q21.2.1 q21.2.2.1 q21.2.2.2.1 q21.2.2.2.2.1 q21.2.2.2.2.2.1 q21.2.2.2.2.2.2)) hx hb hml hown hts hK hA hl hS (c_X9_takesOne l D cI cB cZ a_this a_all a_kept a_isKept a_refused a_hand a_outs a_order0 a_bestOrder a_tells a_bytes a_anew a_values above below_ bytes bytesLong tokenAt tokenLong token value anew values _ _ hq21) (cwV 0 hts gX9_takesItem_X9_takesOne rfl rfl rfl (by decide +kernel) ⟨Nat.le_of_ble_eq_true rfl, Nat.le_of_ble_eq_true rfl⟩) 0 rfl rfl [0, 1, 2, 3] rfl rfl rfl [.inr 0, .inr 1, .inr 2, .inr 3] rfl rfl rfl rfl (Nat.le_of_ble_eq_true rfl) dX9_takesItem_40 (fun H locs hS => ?_)
    obtain ⟨g22, h⟩ := s_guard h
    obtain rfl := Option.some.inj h
    exact hend _ _ _ _ dX9_takesItem_43 g22 hS
  replace h := s_no c2 h
  refine lv_aload_n hx hb dX9_takesItem_17 rfl (lv_at hl 0 rfl) ?_
  obtain ⟨q23, hq23, h⟩ := s_bind h
  refine r_calliV (r := q23.1) (As := []) (rest := []) (wc := (wd_X9_takesWet cI cB cZ a_this a_all a_kept a_isKept a_refused a_hand a_outs a_order0 a_bestOrder a_tells a_bytes a_anew a_values above below_ bytes bytesLong tokenAt tokenLong token value anew values)) (w1 := (wd_X9_takesWet cI cB cZ a_this a_all a_kept a_isKept a_refused a_hand a_outs a_order0 a_bestOrder a_tells a_bytes a_anew a_values above below_ bytes bytesLong q23.2.1 q23.2.2.1 q23.2.2.2.1 q23.2.2.2.2.1 q23.2.2.2.2.2.1 q23.2.2.2.2.2.2)) (ws' := (wd_X9_takesItem cI cB cZ a_this a_all a_kept a_isKept a_refused a_hand a_outs a_order0 a_bestOrder a_tells a_bytes a_anew a_values above below_ bytes bytesLong q23.2.1 q23.2.2.1 q23.2.2.2.1 q23.2.2.2.2.1 q23.2.2.2.2.2.1 q23.2.2.2.2.2.2)) hx hb hml hown hts hK hA hl hS (c_X9_takesWet l D cI cB cZ a_this a_all a_kept a_isKept a_refused a_hand a_outs a_order0 a_bestOrder a_tells a_bytes a_anew a_values above below_ bytes bytesLong tokenAt tokenLong token value anew values _ _ hq23) (cwV 0 hts gX9_takesItem_X9_takesWet rfl rfl rfl (by decide +kernel) ⟨Nat.le_of_ble_eq_true rfl, Nat.le_of_ble_eq_true rfl⟩) 0 rfl rfl [0, 1, 2, 3] rfl rfl rfl [.inr 0, .inr 1, .inr 2, .inr 3] rfl rfl rfl rfl (Nat.le_of_ble_eq_true rfl) dX9_takesItem_18 (fun H locs hS => ?_)
  obtain ⟨g24, h⟩ := s_guard h
  obtain rfl := Option.some.inj h
  exact hend _ _ _ _ dX9_takesItem_21 g24 hS

-- InnTurnedModel.read()I
def wd_X9_read (cI cB cZ : ClassId) (a_this : Nat) (a_all : Nat) (a_kept : Nat) (a_isKept : Nat) (a_refused : Nat) (a_hand : Nat) (a_outs : Nat) (a_order0 : Nat) (a_bestOrder : Nat) (a_tells : Nat) (a_bytes : Nat) (a_anew : Nat) (a_values : Nat)  (all : (Nat → Int32)) (above : Int64) (below_ : Int64) (bytes : (Nat → Int32)) (bytesLong : Int32) (tokenAt : Int32) (tokenLong : Int32) (token : Int32) (value : Int32) (anew : (Nat → Int32)) (values : (Nat → Int32)) : va_W := [(a_this, .inr (6, [.ref a_all, .ref a_kept, .ref a_isKept, .ref a_refused, .long above, .long below_, .ref a_hand, .ref a_outs, .ref a_order0, .ref a_bestOrder, .ref a_tells, .ref a_bytes, .int bytesLong, .int tokenAt, .int tokenLong, .int token, .int value, .ref a_anew, .ref a_values])), (a_all, .inl (cI, 250, .inl all)), (a_bytes, .inl (cI, 150, .inl bytes)), (a_anew, .inl (cI, 106, .inl anew)), (a_values, .inl (cI, 2, .inl values))]
abbrev rm_X9_read : Room := { frames := 7, cells := 0, slots := 0, locals := 153 }
set_option maxRecDepth 20000 in
theorem inX9_X9_read : ∀ w ∈ u_ws RX9 TX9 19, w ∈ wsX9_read := by decide +kernel
def f_X9_read_b63  (bytes : (Nat → Int32)) (bytesLong : Int32) (all : (Nat → Int32)) (tokenAt : Int32) (tokenLong : Int32) (token : Int32) (value : Int32) (anew : (Nat → Int32)) (values : (Nat → Int32)) : Option (Int32 × (Nat → Int32) × Int32 × Int32 × Int32 × Int32 × (Nat → Int32) × (Nat → Int32)) := some (((-10 : Int32) - tokenAt), all, tokenAt, tokenLong, token, value, anew, values)
set_option maxHeartbeats 4000000 in
set_option maxRecDepth 100000 in
theorem w_X9_read_b63 {p : Program} {l : Launch} {e : Env} {s : State} {m : MethodId} {args : Array Value} {below : List Frame} {meth : Method} {c : Code} {A : Nat → Prop} {Q : State → Prop} {D : va_G} {cI cB cZ : ClassId} {a_this a_all a_kept a_isKept a_refused a_hand a_outs a_order0 a_bestOrder a_tells a_bytes a_anew a_values : Nat} {above : Int64} {below_ : Int64} {bytes : (Nat → Int32)} {bytesLong : Int32} (C0 : Cx p s m args c cX9_read 3 RX9 wsX9_read D (s_tys cI cB cZ) A) {rv : Int32 × (Nat → Int32) × Int32 × Int32 × Int32 × Int32 × (Nat → Int32) × (Nat → Int32)} (hend : ∀ (pc : Nat) (H : Heap) (locs : List Loc) (ls : Array Slot), decode cX9_read pc = .ok (.ireturn, 1) → sS D vwCl A s.heap (wd_X9_read cI cB cZ a_this a_all a_kept a_isKept a_refused a_hand a_outs a_order0 a_bestOrder a_tells a_bytes a_anew a_values rv.2.1 above below_ bytes bytesLong rv.2.2.1 rv.2.2.2.1 rv.2.2.2.2.1 rv.2.2.2.2.2.1 rv.2.2.2.2.2.2.1 rv.2.2.2.2.2.2.2) H locs → W p l e rm_X9_read s m args below meth c H locs 0 0 Q (F0 m pc ls [.int rv.1])) : ∀ (all : (Nat → Int32)) (tokenAt : Int32) (tokenLong : Int32) (token : Int32) (value : Int32) (anew : (Nat → Int32)) (values : (Nat → Int32)) (H : Heap) (locs : List Loc) (ls : Array Slot), f_X9_read_b63 bytes bytesLong all tokenAt tokenLong token value anew values = some rv → sS D vwCl A s.heap (wd_X9_read cI cB cZ a_this a_all a_kept a_isKept a_refused a_hand a_outs a_order0 a_bestOrder a_tells a_bytes a_anew a_values all above below_ bytes bytesLong tokenAt tokenLong token value anew values) H locs → lv_has ls 3 [(0, .ref a_this)] → W p l e rm_X9_read s m args below meth c H locs 0 0 Q (F0 m 63 ls []) := by
  obtain ⟨hx, hb, hml, hown, hts, hK, hA⟩ := id C0
  have inX9 : ∀ w ∈ u_ws RX9 TX9 19, w ∈ wsX9_read := inX9_X9_read
  intro all tokenAt tokenLong token value anew values H locs ls h hS hl
  unfold f_X9_read_b63 at h
  refine lv_bipush (v := (-10 : Int32)) hx hb dX9_read_63 (by decide) ?_
  refine lv_aload_n hx hb dX9_read_65 rfl (lv_at hl 0 rfl) ?_
  refine s_get (C := RX9) (T := TX9) (N := 19) hx hb hts inX9 hown hK hS 0 rfl rfl 13 (by decide) (hts (.fieldLink RX9 228 "InnTurnedModel" "tokenAt" "I") (List.mem_of_getElem? (i := 1) rfl)) rfl rfl dX9_read_66 ?_
  refine lv_isub hx hb dX9_read_69 ?_
  obtain rfl := Option.some.inj h
  exact hend _ _ _ _ dX9_read_70 hS
def f_X9_read_b138  (bytes : (Nat → Int32)) (bytesLong : Int32) : Nat → (Nat → Int32) → Int32 → Int32 → Int32 → Int32 → (Nat → Int32) → (Nat → Int32) → Int32 → Int32 → Option (Int32 × (Nat → Int32) × Int32 × Int32 × Int32 × Int32 × (Nat → Int32) × (Nat → Int32))
  | 0, _, _, _, _, _, _, _, _, _ => none
  | fu + 1, all, tokenAt, tokenLong, token, value, anew, values, l1, l2 => (if (106 : Int32) ≤ l2 then some (l1, all, tokenAt, tokenLong, token, value, anew, values) else (if ¬ (l2 < 0 ∨ 106 ≤ (Int32.toNatClampNeg l2)) then (if ¬ (l2 < 0 ∨ 250 ≤ (Int32.toNatClampNeg l2)) then (f_X9_read_b138 bytes bytesLong fu) (upd all (Int32.toNatClampNeg l2) (anew (Int32.toNatClampNeg l2))) tokenAt tokenLong token value anew values l1 (l2 + (1 : Int32)) else none) else none))
set_option maxHeartbeats 4000000 in
set_option maxRecDepth 100000 in
theorem w_X9_read_b138 {p : Program} {l : Launch} {e : Env} {s : State} {m : MethodId} {args : Array Value} {below : List Frame} {meth : Method} {c : Code} {A : Nat → Prop} {Q : State → Prop} {D : va_G} {cI cB cZ : ClassId} {a_this a_all a_kept a_isKept a_refused a_hand a_outs a_order0 a_bestOrder a_tells a_bytes a_anew a_values : Nat} {above : Int64} {below_ : Int64} {bytes : (Nat → Int32)} {bytesLong : Int32} (C0 : Cx p s m args c cX9_read 3 RX9 wsX9_read D (s_tys cI cB cZ) A) {rv : Int32 × (Nat → Int32) × Int32 × Int32 × Int32 × Int32 × (Nat → Int32) × (Nat → Int32)} (hend : ∀ (pc : Nat) (H : Heap) (locs : List Loc) (ls : Array Slot), decode cX9_read pc = .ok (.ireturn, 1) → sS D vwCl A s.heap (wd_X9_read cI cB cZ a_this a_all a_kept a_isKept a_refused a_hand a_outs a_order0 a_bestOrder a_tells a_bytes a_anew a_values rv.2.1 above below_ bytes bytesLong rv.2.2.1 rv.2.2.2.1 rv.2.2.2.2.1 rv.2.2.2.2.2.1 rv.2.2.2.2.2.2.1 rv.2.2.2.2.2.2.2) H locs → W p l e rm_X9_read s m args below meth c H locs 0 0 Q (F0 m pc ls [.int rv.1])) : ∀ (fu : Nat) (all : (Nat → Int32)) (tokenAt : Int32) (tokenLong : Int32) (token : Int32) (value : Int32) (anew : (Nat → Int32)) (values : (Nat → Int32)) (l1 : Int32) (l2 : Int32) (H : Heap) (locs : List Loc) (ls : Array Slot), f_X9_read_b138 bytes bytesLong fu all tokenAt tokenLong token value anew values l1 l2 = some rv → sS D vwCl A s.heap (wd_X9_read cI cB cZ a_this a_all a_kept a_isKept a_refused a_hand a_outs a_order0 a_bestOrder a_tells a_bytes a_anew a_values all above below_ bytes bytesLong tokenAt tokenLong token value anew values) H locs → lv_has ls 3 [(0, .ref a_this), (1, .int l1), (2, .int l2)] → W p l e rm_X9_read s m args below meth c H locs 0 0 Q (F0 m 138 ls []) := by
  obtain ⟨hx, hb, hml, hown, hts, hK, hA⟩ := id C0
  have inX9 : ∀ w ∈ u_ws RX9 TX9 19, w ∈ wsX9_read := inX9_X9_read
  intro fu
  induction fu with
  | zero => intro all tokenAt tokenLong token value anew values l1 l2 H locs ls h; cases h
  | succ fu ih =>
    intro all tokenAt tokenLong token value anew values l1 l2 H locs ls h hS hl
    rw [f_X9_read_b138] at h
    refine lv_iload_n hx hb dX9_read_138 rfl (lv_at hl 2 rfl) ?_
    refine lv_bipush (v := (106 : Int32)) hx hb dX9_read_139 (by decide) ?_
    refine lv_icmp_ge (tgt := 162) hx hb dX9_read_141 (by decide) (fun c1 => ?_) (fun c1 => ?_)
    · replace h := s_yes c1 h
      refine lv_iload_n hx hb dX9_read_162 rfl (lv_at hl 1 rfl) ?_
      obtain rfl := Option.some.inj h
      exact hend _ _ _ _ dX9_read_163 hS
    replace h := s_no c1 h
    refine lv_aload_n hx hb dX9_read_144 rfl (lv_at hl 0 rfl) ?_
    refine s_get (C := RX9) (T := TX9) (N := 19) hx hb hts inX9 hown hK hS 0 rfl rfl 0 (by decide) (hts (.fieldLink RX9 7 "InnTurnedModel" "all" "[I") (List.mem_of_getElem? (i := 5) rfl)) rfl rfl dX9_read_145 ?_
    refine lv_iload_n hx hb dX9_read_148 rfl (lv_at hl 2 rfl) ?_
    refine lv_aload_n hx hb dX9_read_149 rfl (lv_at hl 0 rfl) ?_
    refine s_get (C := RX9) (T := TX9) (N := 19) hx hb hts inX9 hown hK hS 0 rfl rfl 17 (by decide) (hts (.fieldLink RX9 45 "InnTurnedModel" "anew" "[I") (List.mem_of_getElem? (i := 3) rfl)) rfl rfl dX9_read_150 ?_
    refine lv_iload_n hx hb dX9_read_153 rfl (lv_at hl 2 rfl) ?_
    obtain ⟨g2, h⟩ := s_guard h
    refine s_iald hx hb hK hS 3 rfl rfl g2 dX9_read_154 ?_
    obtain ⟨g3, h⟩ := s_guard h
    refine s_iast (ws' := (wd_X9_read cI cB cZ a_this a_all a_kept a_isKept a_refused a_hand a_outs a_order0 a_bestOrder a_tells a_bytes a_anew a_values (upd all (Int32.toNatClampNeg l2) (anew (Int32.toNatClampNeg l2))) above below_ bytes bytesLong tokenAt tokenLong token value anew values)) hx hb hK hS 1 rfl rfl g3 rfl dX9_read_155 (fun H locs hS => ?_)
    refine lv_iinc (v := (l2 + (1 : Int32))) (lv' := [(2, .int (l2 + (1 : Int32))), (0, .ref a_this), (1, .int l1)]) hx hb dX9_read_156 hl (k := 2) rfl rfl (by decide) rfl (fun ls hl => ?_)
    refine lv_goto (tgt := 138) hx hb dX9_read_159 (by decide) ?_
    exact ih (upd all (Int32.toNatClampNeg l2) (anew (Int32.toNatClampNeg l2))) tokenAt tokenLong token value anew values l1 (l2 + (1 : Int32)) _ _ _ h hS (lv_sub hl [1, 2, 0] rfl)
def f_X9_read_b118  (bytes : (Nat → Int32)) (bytesLong : Int32) (all : (Nat → Int32)) (tokenAt : Int32) (tokenLong : Int32) (token : Int32) (value : Int32) (anew : (Nat → Int32)) (values : (Nat → Int32)) : Option (Int32 × (Nat → Int32) × Int32 × Int32 × Int32 × Int32 × (Nat → Int32) × (Nat → Int32)) := some (((-10 : Int32) - tokenAt), all, tokenAt, tokenLong, token, value, anew, values)
set_option maxHeartbeats 4000000 in
set_option maxRecDepth 100000 in
theorem w_X9_read_b118 {p : Program} {l : Launch} {e : Env} {s : State} {m : MethodId} {args : Array Value} {below : List Frame} {meth : Method} {c : Code} {A : Nat → Prop} {Q : State → Prop} {D : va_G} {cI cB cZ : ClassId} {a_this a_all a_kept a_isKept a_refused a_hand a_outs a_order0 a_bestOrder a_tells a_bytes a_anew a_values : Nat} {above : Int64} {below_ : Int64} {bytes : (Nat → Int32)} {bytesLong : Int32} (C0 : Cx p s m args c cX9_read 3 RX9 wsX9_read D (s_tys cI cB cZ) A) {rv : Int32 × (Nat → Int32) × Int32 × Int32 × Int32 × Int32 × (Nat → Int32) × (Nat → Int32)} (hend : ∀ (pc : Nat) (H : Heap) (locs : List Loc) (ls : Array Slot), decode cX9_read pc = .ok (.ireturn, 1) → sS D vwCl A s.heap (wd_X9_read cI cB cZ a_this a_all a_kept a_isKept a_refused a_hand a_outs a_order0 a_bestOrder a_tells a_bytes a_anew a_values rv.2.1 above below_ bytes bytesLong rv.2.2.1 rv.2.2.2.1 rv.2.2.2.2.1 rv.2.2.2.2.2.1 rv.2.2.2.2.2.2.1 rv.2.2.2.2.2.2.2) H locs → W p l e rm_X9_read s m args below meth c H locs 0 0 Q (F0 m pc ls [.int rv.1])) : ∀ (all : (Nat → Int32)) (tokenAt : Int32) (tokenLong : Int32) (token : Int32) (value : Int32) (anew : (Nat → Int32)) (values : (Nat → Int32)) (H : Heap) (locs : List Loc) (ls : Array Slot), f_X9_read_b118 bytes bytesLong all tokenAt tokenLong token value anew values = some rv → sS D vwCl A s.heap (wd_X9_read cI cB cZ a_this a_all a_kept a_isKept a_refused a_hand a_outs a_order0 a_bestOrder a_tells a_bytes a_anew a_values all above below_ bytes bytesLong tokenAt tokenLong token value anew values) H locs → lv_has ls 3 [(0, .ref a_this)] → W p l e rm_X9_read s m args below meth c H locs 0 0 Q (F0 m 118 ls []) := by
  obtain ⟨hx, hb, hml, hown, hts, hK, hA⟩ := id C0
  have inX9 : ∀ w ∈ u_ws RX9 TX9 19, w ∈ wsX9_read := inX9_X9_read
  intro all tokenAt tokenLong token value anew values H locs ls h hS hl
  unfold f_X9_read_b118 at h
  refine lv_bipush (v := (-10 : Int32)) hx hb dX9_read_118 (by decide) ?_
  refine lv_aload_n hx hb dX9_read_120 rfl (lv_at hl 0 rfl) ?_
  refine s_get (C := RX9) (T := TX9) (N := 19) hx hb hts inX9 hown hK hS 0 rfl rfl 13 (by decide) (hts (.fieldLink RX9 228 "InnTurnedModel" "tokenAt" "I") (List.mem_of_getElem? (i := 1) rfl)) rfl rfl dX9_read_121 ?_
  refine lv_isub hx hb dX9_read_124 ?_
  obtain rfl := Option.some.inj h
  exact hend _ _ _ _ dX9_read_125 hS
def f_X9_read_b96  (bytes : (Nat → Int32)) (bytesLong : Int32) : Nat → (Nat → Int32) → Int32 → Int32 → Int32 → Int32 → (Nat → Int32) → (Nat → Int32) → Int32 → Option (Int32 × (Nat → Int32) × Int32 × Int32 × Int32 × Int32 × (Nat → Int32) × (Nat → Int32))
  | 0, _, _, _, _, _, _, _, _ => none
  | fu + 1, all, tokenAt, tokenLong, token, value, anew, values, l1 => (if token = 0 then f_X9_read_b138  bytes bytesLong s_fuel all tokenAt tokenLong token value anew values l1 (0 : Int32) else ((f_X9_takesItem bytes bytesLong tokenAt tokenLong token value anew values).bind fun q5 => (if q5.1 = 0 then f_X9_read_b118  bytes bytesLong all q5.2.1 q5.2.2.1 q5.2.2.2.1 q5.2.2.2.2.1 q5.2.2.2.2.2.1 q5.2.2.2.2.2.2 else (if q5.2.2.2.1 = (3 : Int32) then ((f_X9_goBehind bytes bytesLong q5.2.1 q5.2.2.1 q5.2.2.2.1 q5.2.2.2.2.1).bind fun q8 => (f_X9_read_b96 bytes bytesLong fu) all q8.1 q8.2.1 q8.2.2.1 q8.2.2.2 q5.2.2.2.2.2.1 q5.2.2.2.2.2.2 (l1 + (1 : Int32))) else f_X9_read_b118  bytes bytesLong all q5.2.1 q5.2.2.1 q5.2.2.2.1 q5.2.2.2.2.1 q5.2.2.2.2.2.1 q5.2.2.2.2.2.2))))
set_option maxHeartbeats 4000000 in
set_option maxRecDepth 100000 in
theorem w_X9_read_b96 {p : Program} {l : Launch} {e : Env} {s : State} {m : MethodId} {args : Array Value} {below : List Frame} {meth : Method} {c : Code} {A : Nat → Prop} {Q : State → Prop} {D : va_G} {cI cB cZ : ClassId} {a_this a_all a_kept a_isKept a_refused a_hand a_outs a_order0 a_bestOrder a_tells a_bytes a_anew a_values : Nat} {above : Int64} {below_ : Int64} {bytes : (Nat → Int32)} {bytesLong : Int32} (C0 : Cx p s m args c cX9_read 3 RX9 wsX9_read D (s_tys cI cB cZ) A) {rv : Int32 × (Nat → Int32) × Int32 × Int32 × Int32 × Int32 × (Nat → Int32) × (Nat → Int32)} (hend : ∀ (pc : Nat) (H : Heap) (locs : List Loc) (ls : Array Slot), decode cX9_read pc = .ok (.ireturn, 1) → sS D vwCl A s.heap (wd_X9_read cI cB cZ a_this a_all a_kept a_isKept a_refused a_hand a_outs a_order0 a_bestOrder a_tells a_bytes a_anew a_values rv.2.1 above below_ bytes bytesLong rv.2.2.1 rv.2.2.2.1 rv.2.2.2.2.1 rv.2.2.2.2.2.1 rv.2.2.2.2.2.2.1 rv.2.2.2.2.2.2.2) H locs → W p l e rm_X9_read s m args below meth c H locs 0 0 Q (F0 m pc ls [.int rv.1])) : ∀ (fu : Nat) (all : (Nat → Int32)) (tokenAt : Int32) (tokenLong : Int32) (token : Int32) (value : Int32) (anew : (Nat → Int32)) (values : (Nat → Int32)) (l1 : Int32) (H : Heap) (locs : List Loc) (ls : Array Slot), f_X9_read_b96 bytes bytesLong fu all tokenAt tokenLong token value anew values l1 = some rv → sS D vwCl A s.heap (wd_X9_read cI cB cZ a_this a_all a_kept a_isKept a_refused a_hand a_outs a_order0 a_bestOrder a_tells a_bytes a_anew a_values all above below_ bytes bytesLong tokenAt tokenLong token value anew values) H locs → lv_has ls 3 [(0, .ref a_this), (1, .int l1)] → W p l e rm_X9_read s m args below meth c H locs 0 0 Q (F0 m 96 ls []) := by
  obtain ⟨hx, hb, hml, hown, hts, hK, hA⟩ := id C0
  have inX9 : ∀ w ∈ u_ws RX9 TX9 19, w ∈ wsX9_read := inX9_X9_read
  intro fu
  induction fu with
  | zero => intro all tokenAt tokenLong token value anew values l1 H locs ls h; cases h
  | succ fu ih =>
    intro all tokenAt tokenLong token value anew values l1 H locs ls h hS hl
    rw [f_X9_read_b96] at h
    refine lv_aload_n hx hb dX9_read_96 rfl (lv_at hl 0 rfl) ?_
    refine s_get (C := RX9) (T := TX9) (N := 19) hx hb hts inX9 hown hK hS 0 rfl rfl 15 (by decide) (hts (.fieldLink RX9 234 "InnTurnedModel" "token" "I") (List.mem_of_getElem? (i := 2) rfl)) rfl rfl dX9_read_97 ?_
    refine lv_if_eq (tgt := 136) hx hb dX9_read_100 (by decide) (fun c4 => ?_) (fun c4 => ?_)
    · replace h := s_yes c4 h
      refine lv_iconst (v := (0 : Int32)) hx hb dX9_read_136 (by decide) ?_
      refine lv_istore_n (lv' := [(2, .int (0 : Int32)), (0, .ref a_this), (1, .int l1)]) hx hb dX9_read_137 rfl hl (by decide) rfl (fun ls hl => ?_)
      exact w_X9_read_b138 C0 hend  s_fuel all tokenAt tokenLong token value anew values l1 (0 : Int32) _ _ _ h hS (lv_sub hl [1, 2, 0] rfl)
    replace h := s_no c4 h
    refine lv_aload_n hx hb dX9_read_103 rfl (lv_at hl 0 rfl) ?_
    obtain ⟨q5, hq5, h⟩ := s_bind h
    refine r_calliV (r := q5.1) (As := []) (rest := []) (wc := (wd_X9_takesItem cI cB cZ a_this a_all a_kept a_isKept a_refused a_hand a_outs a_order0 a_bestOrder a_tells a_bytes a_anew a_values above below_ bytes bytesLong tokenAt tokenLong token value anew values)) (w1 := (wd_X9_takesItem cI cB cZ a_this a_all a_kept a_isKept a_refused a_hand a_outs a_order0 a_bestOrder a_tells a_bytes a_anew a_values above below_ bytes bytesLong q5.2.1 q5.2.2.1 q5.2.2.2.1 q5.2.2.2.2.1 q5.2.2.2.2.2.1 q5.2.2.2.2.2.2)) (ws' := (wd_X9_read cI cB cZ a_this a_all a_kept a_isKept a_refused a_hand a_outs a_order0 a_bestOrder a_tells a_bytes a_anew a_values all above below_ bytes bytesLong q5.2.1 q5.2.2.1 q5.2.2.2.1 q5.2.2.2.2.1 q5.2.2.2.2.2.1 q5.2.2.2.2.2.2)) hx hb hml hown hts hK hA hl hS (c_X9_takesItem l D cI cB cZ a_this a_all a_kept a_isKept a_refused a_hand a_outs a_order0 a_bestOrder a_tells a_bytes a_anew a_values above below_ bytes bytesLong tokenAt tokenLong token value anew values _ _ hq5) (cwV 0 hts gX9_read_X9_takesItem rfl rfl rfl (by decide +kernel) ⟨Nat.le_of_ble_eq_true rfl, Nat.le_of_ble_eq_true rfl⟩) 0 rfl rfl [0, 2, 3, 4] rfl rfl rfl [.inr 0, .inl 1, .inr 1, .inr 2, .inr 3] rfl rfl rfl rfl (Nat.le_of_ble_eq_true rfl) dX9_read_104 (fun H locs hS => ?_)
    refine lv_if_eq (tgt := 118) hx hb dX9_read_107 (by decide) (fun c6 => ?_) (fun c6 => ?_)
    · replace h := s_yes c6 h
      exact w_X9_read_b118 C0 hend  all q5.2.1 q5.2.2.1 q5.2.2.2.1 q5.2.2.2.2.1 q5.2.2.2.2.2.1 q5.2.2.2.2.2.2 _ _ _ h hS (lv_sub hl [0] rfl)
    replace h := s_no c6 h
    refine lv_aload_n hx hb dX9_read_110 rfl (lv_at hl 0 rfl) ?_
    refine s_get (C := RX9) (T := TX9) (N := 19) hx hb hts inX9 hown hK hS 0 rfl rfl 15 (by decide) (hts (.fieldLink RX9 234 "InnTurnedModel" "token" "I") (List.mem_of_getElem? (i := 2) rfl)) rfl rfl dX9_read_111 ?_
    refine lv_iconst (v := (3 : Int32)) hx hb dX9_read_114 (by decide) ?_
    refine lv_icmp_eq (tgt := 126) hx hb dX9_read_115 (by decide) (fun c7 => ?_) (fun c7 => ?_)
    · replace h := s_yes c7 h
      refine lv_aload_n hx hb dX9_read_126 rfl (lv_at hl 0 rfl) ?_
      obtain ⟨q8, hq8, h⟩ := s_bind h
      refine r_callvV (As := []) (rest := []) (wc := (wd_X9_goBehind cI cB cZ a_this a_all a_kept a_isKept a_refused a_hand a_outs a_order0 a_bestOrder a_tells a_bytes a_anew a_values above below_ bytes bytesLong q5.2.1 q5.2.2.1 q5.2.2.2.1 q5.2.2.2.2.1)) (w1 := (wd_X9_goBehind cI cB cZ a_this a_all a_kept a_isKept a_refused a_hand a_outs a_order0 a_bestOrder a_tells a_bytes a_anew a_values above below_ bytes bytesLong q8.1 q8.2.1 q8.2.2.1 q8.2.2.2)) (ws' := (wd_X9_read cI cB cZ a_this a_all a_kept a_isKept a_refused a_hand a_outs a_order0 a_bestOrder a_tells a_bytes a_anew a_values all above below_ bytes bytesLong q8.1 q8.2.1 q8.2.2.1 q8.2.2.2 q5.2.2.2.2.2.1 q5.2.2.2.2.2.2)) hx hb hml hown hts hK hA hl hS (c_X9_goBehind l D cI cB cZ a_this a_all a_kept a_isKept a_refused a_hand a_outs a_order0 a_bestOrder a_tells a_bytes a_anew a_values above below_ bytes bytesLong q5.2.1 q5.2.2.1 q5.2.2.2.1 q5.2.2.2.2.1 _ _ hq8) (cwV 0 hts gX9_read_X9_goBehind rfl rfl rfl (by decide +kernel) ⟨Nat.le_of_ble_eq_true rfl, Nat.le_of_ble_eq_true rfl⟩) 0 rfl rfl [0, 2] rfl rfl rfl [.inr 0, .inl 1, .inr 1, .inl 3, .inl 4] rfl rfl rfl rfl (Nat.le_of_ble_eq_true rfl) dX9_read_127 (fun H locs hS => ?_)
      refine lv_iinc (v := (l1 + (1 : Int32))) (lv' := [(1, .int (l1 + (1 : Int32))), (0, .ref a_this)]) hx hb dX9_read_130 hl (k := 1) rfl rfl (by decide) rfl (fun ls hl => ?_)
      refine lv_goto (tgt := 96) hx hb dX9_read_133 (by decide) ?_
      exact ih all q8.1 q8.2.1 q8.2.2.1 q8.2.2.2 q5.2.2.2.2.2.1 q5.2.2.2.2.2.2 (l1 + (1 : Int32)) _ _ _ h hS (lv_sub hl [1, 0] rfl)
    replace h := s_no c7 h
    exact w_X9_read_b118 C0 hend  all q5.2.1 q5.2.2.1 q5.2.2.2.1 q5.2.2.2.2.1 q5.2.2.2.2.2.1 q5.2.2.2.2.2.2 _ _ _ h hS (lv_sub hl [0] rfl)
def f_X9_read  (bytes : (Nat → Int32)) (bytesLong : Int32) (all : (Nat → Int32)) (tokenAt : Int32) (tokenLong : Int32) (token : Int32) (value : Int32) (anew : (Nat → Int32)) (values : (Nat → Int32)) : Option (Int32 × (Nat → Int32) × Int32 × Int32 × Int32 × Int32 × (Nat → Int32) × (Nat → Int32)) := ((f_X9_lookAt bytes bytesLong tokenAt tokenLong token value (0 : Int32)).bind fun q9 => ((f_X9_spells bytes q9.1 q9.2.1 q9.2.2.1 (3 : Int32) (105 : Int32) (110 : Int32) (110 : Int32) (0 : Int32) (0 : Int32) (0 : Int32)).bind fun q10 => (if q10 = 0 then some (((-10 : Int32) - q9.1), all, q9.1, q9.2.1, q9.2.2.1, q9.2.2.2, anew, values) else ((f_X9_goBehind bytes bytesLong q9.1 q9.2.1 q9.2.2.1 q9.2.2.2).bind fun q12 => ((f_X9_takes bytes bytesLong q12.1 q12.2.1 q12.2.2.1 q12.2.2.2 values (0 : Int32) (0 : Int32) (5 : Int32)).bind fun q13 => (if q13.1 = 0 then f_X9_read_b63  bytes bytesLong all q13.2.1 q13.2.2.1 q13.2.2.2.1 q13.2.2.2.2.1 anew q13.2.2.2.2.2 else ((f_X9_takes bytes bytesLong q13.2.1 q13.2.2.1 q13.2.2.2.1 q13.2.2.2.2.1 q13.2.2.2.2.2 (1 : Int32) (0 : Int32) (7 : Int32)).bind fun q15 => (if q15.1 = 0 then f_X9_read_b63  bytes bytesLong all q15.2.1 q15.2.2.1 q15.2.2.2.1 q15.2.2.2.2.1 anew q15.2.2.2.2.2 else (if q15.2.2.2.1 = (3 : Int32) then ((f_X9_goBehind bytes bytesLong q15.2.1 q15.2.2.1 q15.2.2.2.1 q15.2.2.2.2.1).bind fun q18 => ((f_X9_begin 106 anew (q15.2.2.2.2.2 (Int32.toNatClampNeg (0 : Int32))) (q15.2.2.2.2.2 (Int32.toNatClampNeg (1 : Int32)))).bind fun q19 => f_X9_read_b96  bytes bytesLong s_fuel all q18.1 q18.2.1 q18.2.2.1 q18.2.2.2 q19 q15.2.2.2.2.2 (1 : Int32))) else f_X9_read_b63  bytes bytesLong all q15.2.1 q15.2.2.1 q15.2.2.2.1 q15.2.2.2.2.1 anew q15.2.2.2.2.2)))))))))
set_option maxHeartbeats 4000000 in
set_option maxRecDepth 100000 in
theorem c_X9_read (l : Launch) (D : va_G) (cI cB cZ : ClassId) (a_this : Nat) (a_all : Nat) (a_kept : Nat) (a_isKept : Nat) (a_refused : Nat) (a_hand : Nat) (a_outs : Nat) (a_order0 : Nat) (a_bestOrder : Nat) (a_tells : Nat) (a_bytes : Nat) (a_anew : Nat) (a_values : Nat) (all : (Nat → Int32)) (above : Int64) (below_ : Int64) (bytes : (Nat → Int32)) (bytesLong : Int32) (tokenAt : Int32) (tokenLong : Int32) (token : Int32) (value : Int32) (anew : (Nat → Int32)) (values : (Nat → Int32)) (rv : Int32 × (Nat → Int32) × Int32 × Int32 × Int32 × Int32 × (Nat → Int32) × (Nat → Int32)) (sz : Nat) (hf : f_X9_read bytes bytesLong all tokenAt tokenLong token value anew values = some rv) : Met l yX9_read wsX9_read rm_X9_read (sPc D vwCl (s_tys cI cB cZ) [.ref a_this] (wd_X9_read cI cB cZ a_this a_all a_kept a_isKept a_refused a_hand a_outs a_order0 a_bestOrder a_tells a_bytes a_anew a_values all above below_ bytes bytesLong tokenAt tokenLong token value anew values) sz) (sQi D vwCl (wd_X9_read cI cB cZ a_this a_all a_kept a_isKept a_refused a_hand a_outs a_order0 a_bestOrder a_tells a_bytes a_anew a_values all above below_ bytes bytesLong tokenAt tokenLong token value anew values) (wd_X9_read cI cB cZ a_this a_all a_kept a_isKept a_refused a_hand a_outs a_order0 a_bestOrder a_tells a_bytes a_anew a_values rv.2.1 above below_ bytes bytesLong rv.2.2.1 rv.2.2.2.1 rv.2.2.2.2.1 rv.2.2.2.2.2.1 rv.2.2.2.2.2.2.1 rv.2.2.2.2.2.2.2) sz rv.1) 0 0 (va_A (wd_X9_read cI cB cZ a_this a_all a_kept a_isKept a_refused a_hand a_outs a_order0 a_bestOrder a_tells a_bytes a_anew a_values all above below_ bytes bytesLong tokenAt tokenLong token value anew values) sz) := by
  refine s_enter_n (cc := cX9_read) (nL := 3) (r := rv.1) (by decide) rfl (Nat.le_of_ble_eq_true rfl) ?_
  intro p e s m args below meth c A Q C0 hend ls hl hS
  have h := hf
  clear hf
  replace hl : lv_has ls 3 [(0, .ref a_this)] := hl
  unfold f_X9_read at h
  obtain ⟨hx, hb, hml, hown, hts, hK, hA⟩ := id C0
  have inX9 : ∀ w ∈ u_ws RX9 TX9 19, w ∈ wsX9_read := inX9_X9_read
  refine lv_aload_n hx hb dX9_read_0 rfl (lv_at hl 0 rfl) ?_
  refine lv_iconst (v := (0 : Int32)) hx hb dX9_read_1 (by decide) ?_
  obtain ⟨q9, hq9, h⟩ := s_bind h
  refine r_callvV (As := [.int (0 : Int32)]) (rest := []) (wc := (wd_X9_lookAt cI cB cZ a_this a_all a_kept a_isKept a_refused a_hand a_outs a_order0 a_bestOrder a_tells a_bytes a_anew a_values above below_ bytes bytesLong tokenAt tokenLong token value)) (w1 := (wd_X9_lookAt cI cB cZ a_this a_all a_kept a_isKept a_refused a_hand a_outs a_order0 a_bestOrder a_tells a_bytes a_anew a_values above below_ bytes bytesLong q9.1 q9.2.1 q9.2.2.1 q9.2.2.2)) (ws' := (wd_X9_read cI cB cZ a_this a_all a_kept a_isKept a_refused a_hand a_outs a_order0 a_bestOrder a_tells a_bytes a_anew a_values all above below_ bytes bytesLong q9.1 q9.2.1 q9.2.2.1 q9.2.2.2 anew values)) hx hb hml hown hts hK hA hl hS (c_X9_lookAt l D cI cB cZ a_this a_all a_kept a_isKept a_refused a_hand a_outs a_order0 a_bestOrder a_tells a_bytes a_anew a_values above below_ bytes bytesLong tokenAt tokenLong token value (0 : Int32) _ _ hq9) (cwV 1 hts gX9_read_X9_lookAt rfl rfl rfl (by decide +kernel) ⟨Nat.le_of_ble_eq_true rfl, Nat.le_of_ble_eq_true rfl⟩) 0 rfl rfl [0, 2] rfl rfl rfl [.inr 0, .inl 1, .inr 1, .inl 3, .inl 4] rfl rfl rfl rfl (Nat.le_of_ble_eq_true rfl) dX9_read_2 (fun H locs hS => ?_)
  refine lv_aload_n hx hb dX9_read_5 rfl (lv_at hl 0 rfl) ?_
  refine lv_iconst (v := (3 : Int32)) hx hb dX9_read_6 (by decide) ?_
  refine lv_bipush (v := (105 : Int32)) hx hb dX9_read_7 (by decide) ?_
  refine lv_bipush (v := (110 : Int32)) hx hb dX9_read_9 (by decide) ?_
  refine lv_bipush (v := (110 : Int32)) hx hb dX9_read_11 (by decide) ?_
  refine lv_iconst (v := (0 : Int32)) hx hb dX9_read_13 (by decide) ?_
  refine lv_iconst (v := (0 : Int32)) hx hb dX9_read_14 (by decide) ?_
  refine lv_iconst (v := (0 : Int32)) hx hb dX9_read_15 (by decide) ?_
  obtain ⟨q10, hq10, h⟩ := s_bind h
  refine u_calliV (r := q10) (As := [.int (3 : Int32), .int (105 : Int32), .int (110 : Int32), .int (110 : Int32), .int (0 : Int32), .int (0 : Int32), .int (0 : Int32)]) (rest := []) (wc := (wd_X9_spells cI cB cZ a_this a_all a_kept a_isKept a_refused a_hand a_outs a_order0 a_bestOrder a_tells a_bytes a_anew a_values above below_ bytes bytesLong q9.1 q9.2.1 q9.2.2.1 q9.2.2.2)) hx hb hml hown hts hK hA hl hS (c_X9_spells l D cI cB cZ a_this a_all a_kept a_isKept a_refused a_hand a_outs a_order0 a_bestOrder a_tells a_bytes a_anew a_values above below_ bytes bytesLong q9.1 q9.2.1 q9.2.2.1 q9.2.2.2 (3 : Int32) (105 : Int32) (110 : Int32) (110 : Int32) (0 : Int32) (0 : Int32) (0 : Int32) _ _ hq10) (cwV 7 hts gX9_read_X9_spells rfl rfl rfl (by decide +kernel) ⟨Nat.le_of_ble_eq_true rfl, Nat.le_of_ble_eq_true rfl⟩) 0 rfl rfl [0, 2] rfl rfl rfl rfl (Nat.le_of_ble_eq_true rfl) dX9_read_16 (fun H locs hS => ?_)
  refine lv_if_ne (tgt := 30) hx hb dX9_read_19 (by decide) (fun c11 => ?_) (fun c11 => ?_)
  · replace h := s_no c11 h
    refine lv_aload_n hx hb dX9_read_30 rfl (lv_at hl 0 rfl) ?_
    obtain ⟨q12, hq12, h⟩ := s_bind h
    refine r_callvV (As := []) (rest := []) (wc := (wd_X9_goBehind cI cB cZ a_this a_all a_kept a_isKept a_refused a_hand a_outs a_order0 a_bestOrder a_tells a_bytes a_anew a_values above below_ bytes bytesLong q9.1 q9.2.1 q9.2.2.1 q9.2.2.2)) (w1 := (wd_X9_goBehind cI cB cZ a_this a_all a_kept a_isKept a_refused a_hand a_outs a_order0 a_bestOrder a_tells a_bytes a_anew a_values above below_ bytes bytesLong q12.1 q12.2.1 q12.2.2.1 q12.2.2.2)) (ws' := (wd_X9_read cI cB cZ a_this a_all a_kept a_isKept a_refused a_hand a_outs a_order0 a_bestOrder a_tells a_bytes a_anew a_values all above below_ bytes bytesLong q12.1 q12.2.1 q12.2.2.1 q12.2.2.2 anew values)) hx hb hml hown hts hK hA hl hS (c_X9_goBehind l D cI cB cZ a_this a_all a_kept a_isKept a_refused a_hand a_outs a_order0 a_bestOrder a_tells a_bytes a_anew a_values above below_ bytes bytesLong q9.1 q9.2.1 q9.2.2.1 q9.2.2.2 _ _ hq12) (cwV 0 hts gX9_read_X9_goBehind rfl rfl rfl (by decide +kernel) ⟨Nat.le_of_ble_eq_true rfl, Nat.le_of_ble_eq_true rfl⟩) 0 rfl rfl [0, 2] rfl rfl rfl [.inr 0, .inl 1, .inr 1, .inl 3, .inl 4] rfl rfl rfl rfl (Nat.le_of_ble_eq_true rfl) dX9_read_31 (fun H locs hS => ?_)
    refine lv_aload_n hx hb dX9_read_34 rfl (lv_at hl 0 rfl) ?_
    refine lv_iconst (v := (0 : Int32)) hx hb dX9_read_35 (by decide) ?_
    refine lv_iconst (v := (0 : Int32)) hx hb dX9_read_36 (by decide) ?_
    refine lv_iconst (v := (5 : Int32)) hx hb dX9_read_37 (by decide) ?_
    obtain ⟨q13, hq13, h⟩ := s_bind h
    refine r_calliV (r := q13.1) (As := [.int (0 : Int32), .int (0 : Int32), .int (5 : Int32)]) (rest := []) (wc := (wd_X9_takes cI cB cZ a_this a_all a_kept a_isKept a_refused a_hand a_outs a_order0 a_bestOrder a_tells a_bytes a_anew a_values above below_ bytes bytesLong q12.1 q12.2.1 q12.2.2.1 q12.2.2.2 values)) (w1 := (wd_X9_takes cI cB cZ a_this a_all a_kept a_isKept a_refused a_hand a_outs a_order0 a_bestOrder a_tells a_bytes a_anew a_values above below_ bytes bytesLong q13.2.1 q13.2.2.1 q13.2.2.2.1 q13.2.2.2.2.1 q13.2.2.2.2.2)) (ws' := (wd_X9_read cI cB cZ a_this a_all a_kept a_isKept a_refused a_hand a_outs a_order0 a_bestOrder a_tells a_bytes a_anew a_values all above below_ bytes bytesLong q13.2.1 q13.2.2.1 q13.2.2.2.1 q13.2.2.2.2.1 anew q13.2.2.2.2.2)) hx hb hml hown hts hK hA hl hS (c_X9_takes l D cI cB cZ a_this a_all a_kept a_isKept a_refused a_hand a_outs a_order0 a_bestOrder a_tells a_bytes a_anew a_values above below_ bytes bytesLong q12.1 q12.2.1 q12.2.2.1 q12.2.2.2 values (0 : Int32) (0 : Int32) (5 : Int32) _ _ hq13) (cwV 3 hts gX9_read_X9_takes rfl rfl rfl (by decide +kernel) ⟨Nat.le_of_ble_eq_true rfl, Nat.le_of_ble_eq_true rfl⟩) 0 rfl rfl [0, 2, 4] rfl rfl rfl [.inr 0, .inl 1, .inr 1, .inl 3, .inr 2] rfl rfl rfl rfl (Nat.le_of_ble_eq_true rfl) dX9_read_38 (fun H locs hS => ?_)
    refine lv_if_eq (tgt := 63) hx hb dX9_read_41 (by decide) (fun c14 => ?_) (fun c14 => ?_)
    · replace h := s_yes c14 h
      exact w_X9_read_b63 C0 hend  all q13.2.1 q13.2.2.1 q13.2.2.2.1 q13.2.2.2.2.1 anew q13.2.2.2.2.2 _ _ _ h hS (lv_sub hl [0] rfl)
    replace h := s_no c14 h
    refine lv_aload_n hx hb dX9_read_44 rfl (lv_at hl 0 rfl) ?_
    refine lv_iconst (v := (1 : Int32)) hx hb dX9_read_45 (by decide) ?_
    refine lv_iconst (v := (0 : Int32)) hx hb dX9_read_46 (by decide) ?_
    refine lv_bipush (v := (7 : Int32)) hx hb dX9_read_47 (by decide) ?_
    obtain ⟨q15, hq15, h⟩ := s_bind h
    refine r_calliV (r := q15.1) (As := [.int (1 : Int32), .int (0 : Int32), .int (7 : Int32)]) (rest := []) (wc := (wd_X9_takes cI cB cZ a_this a_all a_kept a_isKept a_refused a_hand a_outs a_order0 a_bestOrder a_tells a_bytes a_anew a_values above below_ bytes bytesLong q13.2.1 q13.2.2.1 q13.2.2.2.1 q13.2.2.2.2.1 q13.2.2.2.2.2)) (w1 := (wd_X9_takes cI cB cZ a_this a_all a_kept a_isKept a_refused a_hand a_outs a_order0 a_bestOrder a_tells a_bytes a_anew a_values above below_ bytes bytesLong q15.2.1 q15.2.2.1 q15.2.2.2.1 q15.2.2.2.2.1 q15.2.2.2.2.2)) (ws' := (wd_X9_read cI cB cZ a_this a_all a_kept a_isKept a_refused a_hand a_outs a_order0 a_bestOrder a_tells a_bytes a_anew a_values all above below_ bytes bytesLong q15.2.1 q15.2.2.1 q15.2.2.2.1 q15.2.2.2.2.1 anew q15.2.2.2.2.2)) hx hb hml hown hts hK hA hl hS (c_X9_takes l D cI cB cZ a_this a_all a_kept a_isKept a_refused a_hand a_outs a_order0 a_bestOrder a_tells a_bytes a_anew a_values above below_ bytes bytesLong q13.2.1 q13.2.2.1 q13.2.2.2.1 q13.2.2.2.2.1 q13.2.2.2.2.2 (1 : Int32) (0 : Int32) (7 : Int32) _ _ hq15) (cwV 3 hts gX9_read_X9_takes rfl rfl rfl (by decide +kernel) ⟨Nat.le_of_ble_eq_true rfl, Nat.le_of_ble_eq_true rfl⟩) 0 rfl rfl [0, 2, 4] rfl rfl rfl [.inr 0, .inl 1, .inr 1, .inl 3, .inr 2] rfl rfl rfl rfl (Nat.le_of_ble_eq_true rfl) dX9_read_49 (fun H locs hS => ?_)
    refine lv_if_eq (tgt := 63) hx hb dX9_read_52 (by decide) (fun c16 => ?_) (fun c16 => ?_)
    · replace h := s_yes c16 h
      exact w_X9_read_b63 C0 hend  all q15.2.1 q15.2.2.1 q15.2.2.2.1 q15.2.2.2.2.1 anew q15.2.2.2.2.2 _ _ _ h hS (lv_sub hl [0] rfl)
    replace h := s_no c16 h
    refine lv_aload_n hx hb dX9_read_55 rfl (lv_at hl 0 rfl) ?_
    refine s_get (C := RX9) (T := TX9) (N := 19) hx hb hts inX9 hown hK hS 0 rfl rfl 15 (by decide) (hts (.fieldLink RX9 234 "InnTurnedModel" "token" "I") (List.mem_of_getElem? (i := 2) rfl)) rfl rfl dX9_read_56 ?_
    refine lv_iconst (v := (3 : Int32)) hx hb dX9_read_59 (by decide) ?_
    refine lv_icmp_eq (tgt := 71) hx hb dX9_read_60 (by decide) (fun c17 => ?_) (fun c17 => ?_)
    · replace h := s_yes c17 h
      refine lv_aload_n hx hb dX9_read_71 rfl (lv_at hl 0 rfl) ?_
      obtain ⟨q18, hq18, h⟩ := s_bind h
      refine r_callvV (As := []) (rest := []) (wc := (wd_X9_goBehind cI cB cZ a_this a_all a_kept a_isKept a_refused a_hand a_outs a_order0 a_bestOrder a_tells a_bytes a_anew a_values above below_ bytes bytesLong q15.2.1 q15.2.2.1 q15.2.2.2.1 q15.2.2.2.2.1)) (w1 := (wd_X9_goBehind cI cB cZ a_this a_all a_kept a_isKept a_refused a_hand a_outs a_order0 a_bestOrder a_tells a_bytes a_anew a_values above below_ bytes bytesLong q18.1 q18.2.1 q18.2.2.1 q18.2.2.2)) (ws' := (wd_X9_read cI cB cZ a_this a_all a_kept a_isKept a_refused a_hand a_outs a_order0 a_bestOrder a_tells a_bytes a_anew a_values all above below_ bytes bytesLong q18.1 q18.2.1 q18.2.2.1 q18.2.2.2 anew q15.2.2.2.2.2)) hx hb hml hown hts hK hA hl hS (c_X9_goBehind l D cI cB cZ a_this a_all a_kept a_isKept a_refused a_hand a_outs a_order0 a_bestOrder a_tells a_bytes a_anew a_values above below_ bytes bytesLong q15.2.1 q15.2.2.1 q15.2.2.2.1 q15.2.2.2.2.1 _ _ hq18) (cwV 0 hts gX9_read_X9_goBehind rfl rfl rfl (by decide +kernel) ⟨Nat.le_of_ble_eq_true rfl, Nat.le_of_ble_eq_true rfl⟩) 0 rfl rfl [0, 2] rfl rfl rfl [.inr 0, .inl 1, .inr 1, .inl 3, .inl 4] rfl rfl rfl rfl (Nat.le_of_ble_eq_true rfl) dX9_read_72 (fun H locs hS => ?_)
      refine lv_aload_n hx hb dX9_read_75 rfl (lv_at hl 0 rfl) ?_
      refine s_get (C := RX9) (T := TX9) (N := 19) hx hb hts inX9 hown hK hS 0 rfl rfl 17 (by decide) (hts (.fieldLink RX9 45 "InnTurnedModel" "anew" "[I") (List.mem_of_getElem? (i := 3) rfl)) rfl rfl dX9_read_76 ?_
      refine lv_aload_n hx hb dX9_read_79 rfl (lv_at hl 0 rfl) ?_
      refine s_get (C := RX9) (T := TX9) (N := 19) hx hb hts inX9 hown hK hS 0 rfl rfl 18 (by decide) (hts (.fieldLink RX9 48 "InnTurnedModel" "values" "[I") (List.mem_of_getElem? (i := 4) rfl)) rfl rfl dX9_read_80 ?_
      refine lv_iconst (v := (0 : Int32)) hx hb dX9_read_83 (by decide) ?_
      refine s_iald hx hb hK hS 4 rfl rfl (by decide) dX9_read_84 ?_
      refine lv_aload_n hx hb dX9_read_85 rfl (lv_at hl 0 rfl) ?_
      refine s_get (C := RX9) (T := TX9) (N := 19) hx hb hts inX9 hown hK hS 0 rfl rfl 18 (by decide) (hts (.fieldLink RX9 48 "InnTurnedModel" "values" "[I") (List.mem_of_getElem? (i := 4) rfl)) rfl rfl dX9_read_86 ?_
      refine lv_iconst (v := (1 : Int32)) hx hb dX9_read_89 (by decide) ?_
      refine s_iald hx hb hK hS 4 rfl rfl (by decide) dX9_read_90 ?_
      obtain ⟨q19, hq19, h⟩ := s_bind h
      refine r_callvS (As := [.ref a_anew, .int (q15.2.2.2.2.2 (Int32.toNatClampNeg (0 : Int32))), .int (q15.2.2.2.2.2 (Int32.toNatClampNeg (1 : Int32)))]) (rest := []) (wc := (wd_X9_begin cI cB cZ a_anew 106 anew)) (w1 := (wd_X9_begin cI cB cZ a_anew 106 q19)) (ws' := (wd_X9_read cI cB cZ a_this a_all a_kept a_isKept a_refused a_hand a_outs a_order0 a_bestOrder a_tells a_bytes a_anew a_values all above below_ bytes bytesLong q18.1 q18.2.1 q18.2.2.1 q18.2.2.2 q19 q15.2.2.2.2.2)) hx hb hml hown hts hK hA hl hS (c_X9_begin l D cI cB cZ a_anew 106 anew (q15.2.2.2.2.2 (Int32.toNatClampNeg (0 : Int32))) (q15.2.2.2.2.2 (Int32.toNatClampNeg (1 : Int32))) _ _ hq19) (va_cwS 3 hts gX9_read_X9_begin rfl rfl rfl (by decide +kernel) ⟨Nat.le_of_ble_eq_true rfl, Nat.le_of_ble_eq_true rfl⟩) [3] rfl rfl rfl [.inl 0, .inl 1, .inl 2, .inr 0, .inl 4] rfl rfl rfl rfl (Nat.le_of_ble_eq_true rfl) dX9_read_91 (fun H locs hS => ?_)
      refine lv_iconst (v := (1 : Int32)) hx hb dX9_read_94 (by decide) ?_
      refine lv_istore_n (lv' := [(1, .int (1 : Int32)), (0, .ref a_this)]) hx hb dX9_read_95 rfl hl (by decide) rfl (fun ls hl => ?_)
      exact w_X9_read_b96 C0 hend  s_fuel all q18.1 q18.2.1 q18.2.2.1 q18.2.2.2 q19 q15.2.2.2.2.2 (1 : Int32) _ _ _ h hS (lv_sub hl [1, 0] rfl)
    replace h := s_no c17 h
    exact w_X9_read_b63 C0 hend  all q15.2.1 q15.2.2.1 q15.2.2.2.1 q15.2.2.2.2.1 anew q15.2.2.2.2.2 _ _ _ h hS (lv_sub hl [0] rfl)
  replace h := s_yes c11 h
  refine lv_bipush (v := (-10 : Int32)) hx hb dX9_read_22 (by decide) ?_
  refine lv_aload_n hx hb dX9_read_24 rfl (lv_at hl 0 rfl) ?_
  refine s_get (C := RX9) (T := TX9) (N := 19) hx hb hts inX9 hown hK hS 0 rfl rfl 13 (by decide) (hts (.fieldLink RX9 228 "InnTurnedModel" "tokenAt" "I") (List.mem_of_getElem? (i := 1) rfl)) rfl rfl dX9_read_25 ?_
  refine lv_isub hx hb dX9_read_28 ?_
  obtain rfl := Option.some.inj h
  exact hend _ _ _ _ dX9_read_29 hS

-- InnTurnedModel.part(I)J
def wd_X9_part (cI cB cZ : ClassId) (a_this : Nat) (a_all : Nat) (a_kept : Nat) (a_isKept : Nat) (a_refused : Nat) (a_hand : Nat) (a_outs : Nat) (a_order0 : Nat) (a_bestOrder : Nat) (a_tells : Nat) (a_bytes : Nat) (a_anew : Nat) (a_values : Nat)  (refused : (Nat → Int32)) (above : Int64) (below_ : Int64) (bytesLong : Int32) (tokenAt : Int32) (tokenLong : Int32) (token : Int32) (value : Int32) : va_W := [(a_this, .inr (6, [.ref a_all, .ref a_kept, .ref a_isKept, .ref a_refused, .long above, .long below_, .ref a_hand, .ref a_outs, .ref a_order0, .ref a_bestOrder, .ref a_tells, .ref a_bytes, .int bytesLong, .int tokenAt, .int tokenLong, .int token, .int value, .ref a_anew, .ref a_values])), (a_refused, .inl (cI, 3, .inl refused))]
abbrev rm_X9_part : Room := { frames := 1, cells := 0, slots := 0, locals := 21 }
set_option maxRecDepth 20000 in
theorem inX9_X9_part : ∀ w ∈ u_ws RX9 TX9 19, w ∈ wsX9_part := by decide +kernel
def f_X9_part  (above : Int64) (below_ : Int64) (refused : (Nat → Int32)) (p1 : Int32) : Option (Int64 × (Nat → Int32)) := (if p1 = 0 then some (above, refused) else (if p1 = (1 : Int32) then some (below_, refused) else ((f_X9_bad refused (-2 : Int32)).bind fun q3 => some ((Int32.toInt64 q3.1), q3.2))))
set_option maxHeartbeats 4000000 in
set_option maxRecDepth 100000 in
theorem c_X9_part (l : Launch) (D : va_G) (cI cB cZ : ClassId) (a_this : Nat) (a_all : Nat) (a_kept : Nat) (a_isKept : Nat) (a_refused : Nat) (a_hand : Nat) (a_outs : Nat) (a_order0 : Nat) (a_bestOrder : Nat) (a_tells : Nat) (a_bytes : Nat) (a_anew : Nat) (a_values : Nat) (refused : (Nat → Int32)) (above : Int64) (below_ : Int64) (bytesLong : Int32) (tokenAt : Int32) (tokenLong : Int32) (token : Int32) (value : Int32) (p1 : Int32) (rv : Int64 × (Nat → Int32)) (sz : Nat) (hf : f_X9_part above below_ refused p1 = some rv) : Met l yX9_part wsX9_part rm_X9_part (sPc D vwCl (s_tys cI cB cZ) [.ref a_this, .int p1] (wd_X9_part cI cB cZ a_this a_all a_kept a_isKept a_refused a_hand a_outs a_order0 a_bestOrder a_tells a_bytes a_anew a_values refused above below_ bytesLong tokenAt tokenLong token value) sz) (sQl D vwCl (wd_X9_part cI cB cZ a_this a_all a_kept a_isKept a_refused a_hand a_outs a_order0 a_bestOrder a_tells a_bytes a_anew a_values refused above below_ bytesLong tokenAt tokenLong token value) (wd_X9_part cI cB cZ a_this a_all a_kept a_isKept a_refused a_hand a_outs a_order0 a_bestOrder a_tells a_bytes a_anew a_values rv.2 above below_ bytesLong tokenAt tokenLong token value) sz rv.1) 0 0 (va_A (wd_X9_part cI cB cZ a_this a_all a_kept a_isKept a_refused a_hand a_outs a_order0 a_bestOrder a_tells a_bytes a_anew a_values refused above below_ bytesLong tokenAt tokenLong token value) sz) := by
  refine s_enter_l (cc := cX9_part) (nL := 2) (r := rv.1) (by decide) rfl (Nat.le_of_ble_eq_true rfl) ?_
  intro p e s m args below meth c A Q C0 hend ls hl hS
  have h := hf
  clear hf
  replace hl : lv_has ls 2 [(0, .ref a_this), (1, .int p1)] := hl
  unfold f_X9_part at h
  obtain ⟨hx, hb, hml, hown, hts, hK, hA⟩ := id C0
  have inX9 : ∀ w ∈ u_ws RX9 TX9 19, w ∈ wsX9_part := inX9_X9_part
  refine lv_iload_n hx hb dX9_part_0 rfl (lv_at hl 1 rfl) ?_
  refine lv_if_ne (tgt := 11) hx hb dX9_part_1 (by decide) (fun c1 => ?_) (fun c1 => ?_)
  · replace h := s_no c1 h
    refine lv_iload_n hx hb dX9_part_11 rfl (lv_at hl 1 rfl) ?_
    refine lv_iconst (v := (1 : Int32)) hx hb dX9_part_12 (by decide) ?_
    refine lv_icmp_ne (tgt := 23) hx hb dX9_part_13 (by decide) (fun c2 => ?_) (fun c2 => ?_)
    · replace h := s_no c2 h
      refine lv_aload_n hx hb dX9_part_23 rfl (lv_at hl 0 rfl) ?_
      refine lv_bipush (v := (-2 : Int32)) hx hb dX9_part_24 (by decide) ?_
      obtain ⟨q3, hq3, h⟩ := s_bind h
      refine r_calliV (r := q3.1) (As := [.int (-2 : Int32)]) (rest := []) (wc := (wd_X9_bad cI cB cZ a_this a_all a_kept a_isKept a_refused a_hand a_outs a_order0 a_bestOrder a_tells a_bytes a_anew a_values refused above below_ bytesLong tokenAt tokenLong token value)) (w1 := (wd_X9_bad cI cB cZ a_this a_all a_kept a_isKept a_refused a_hand a_outs a_order0 a_bestOrder a_tells a_bytes a_anew a_values q3.2 above below_ bytesLong tokenAt tokenLong token value)) (ws' := (wd_X9_part cI cB cZ a_this a_all a_kept a_isKept a_refused a_hand a_outs a_order0 a_bestOrder a_tells a_bytes a_anew a_values q3.2 above below_ bytesLong tokenAt tokenLong token value)) hx hb hml hown hts hK hA hl hS (c_X9_bad l D cI cB cZ a_this a_all a_kept a_isKept a_refused a_hand a_outs a_order0 a_bestOrder a_tells a_bytes a_anew a_values refused above below_ bytesLong tokenAt tokenLong token value (-2 : Int32) _ _ hq3) (cwV 1 hts gX9_part_X9_bad rfl rfl rfl (by decide +kernel) ⟨Nat.le_of_ble_eq_true rfl, Nat.le_of_ble_eq_true rfl⟩) 0 rfl rfl [0, 1] rfl rfl rfl [.inr 0, .inr 1] rfl rfl rfl rfl (Nat.le_of_ble_eq_true rfl) dX9_part_26 (fun H locs hS => ?_)
      refine lv_i2l (v := (Int32.toInt64 q3.1)) hx hb dX9_part_29 rfl ?_
      obtain rfl := Option.some.inj h
      exact hend _ _ _ _ dX9_part_30 hS
    replace h := s_yes c2 h
    refine lv_aload_n hx hb dX9_part_16 rfl (lv_at hl 0 rfl) ?_
    refine s_get (C := RX9) (T := TX9) (N := 19) hx hb hts inX9 hown hK hS 0 rfl rfl 5 (by decide) (hts (.fieldLink RX9 23 "InnTurnedModel" "below" "J") (List.mem_of_getElem? (i := 2) rfl)) rfl rfl dX9_part_17 ?_
    refine lv_goto (tgt := 30) hx hb dX9_part_20 (by decide) ?_
    obtain rfl := Option.some.inj h
    exact hend _ _ _ _ dX9_part_30 hS
  replace h := s_yes c1 h
  refine lv_aload_n hx hb dX9_part_4 rfl (lv_at hl 0 rfl) ?_
  refine s_get (C := RX9) (T := TX9) (N := 19) hx hb hts inX9 hown hK hS 0 rfl rfl 4 (by decide) (hts (.fieldLink RX9 193 "InnTurnedModel" "above" "J") (List.mem_of_getElem? (i := 1) rfl)) rfl rfl dX9_part_5 ?_
  refine lv_goto (tgt := 30) hx hb dX9_part_8 (by decide) ?_
  obtain rfl := Option.some.inj h
  exact hend _ _ _ _ dX9_part_30 hS

-- InnTurnedModel.image(I)I
def wd_X9_image (cI cB cZ : ClassId) (a_this : Nat) (a_all : Nat) (a_kept : Nat) (a_isKept : Nat) (a_refused : Nat) (a_hand : Nat) (a_outs : Nat) (a_order0 : Nat) (a_bestOrder : Nat) (a_tells : Nat) (a_bytes : Nat) (a_anew : Nat) (a_values : Nat)  (all : (Nat → Int32)) (kept : (Nat → Int32)) (isKept : (Nat → Int32)) (refused : (Nat → Int32)) (above : Int64) (below_ : Int64) (bytesLong : Int32) (tokenAt : Int32) (tokenLong : Int32) (token : Int32) (value : Int32) : va_W := [(a_this, .inr (6, [.ref a_all, .ref a_kept, .ref a_isKept, .ref a_refused, .long above, .long below_, .ref a_hand, .ref a_outs, .ref a_order0, .ref a_bestOrder, .ref a_tells, .ref a_bytes, .int bytesLong, .int tokenAt, .int tokenLong, .int token, .int value, .ref a_anew, .ref a_values])), (a_all, .inl (cI, 250, .inl all)), (a_kept, .inl (cI, 500, .inl kept)), (a_isKept, .inl (cZ, 2, .inl isKept)), (a_refused, .inl (cI, 3, .inl refused))]
abbrev rm_X9_image : Room := { frames := 1, cells := 0, slots := 0, locals := 25 }
set_option maxRecDepth 20000 in
theorem inX9_X9_image : ∀ w ∈ u_ws RX9 TX9 19, w ∈ wsX9_image := by decide +kernel
def f_X9_image_b19  (all : (Nat → Int32)) : Nat → (Nat → Int32) → (Nat → Int32) → (Nat → Int32) → Int32 → Int32 → Option (Int32 × (Nat → Int32) × (Nat → Int32) × (Nat → Int32))
  | 0, _, _, _, _, _ => none
  | fu + 1, kept, isKept, refused, l1, l2 => (if (250 : Int32) ≤ l2 then (if ¬ (l1 < 0 ∨ 2 ≤ (Int32.toNatClampNeg l1)) then some ((1 : Int32), kept, (upd isKept (Int32.toNatClampNeg l1) (vp_nar .boolean (1 : Int32))), refused) else none) else (if ¬ (l2 < 0 ∨ 250 ≤ (Int32.toNatClampNeg l2)) then (if ¬ ((((250 : Int32) * l1) + l2) < 0 ∨ 500 ≤ (Int32.toNatClampNeg (((250 : Int32) * l1) + l2))) then (f_X9_image_b19 all fu) (upd kept (Int32.toNatClampNeg (((250 : Int32) * l1) + l2)) (all (Int32.toNatClampNeg l2))) isKept refused l1 (l2 + (1 : Int32)) else none) else none))
set_option maxHeartbeats 4000000 in
set_option maxRecDepth 100000 in
theorem w_X9_image_b19 {p : Program} {l : Launch} {e : Env} {s : State} {m : MethodId} {args : Array Value} {below : List Frame} {meth : Method} {c : Code} {A : Nat → Prop} {Q : State → Prop} {D : va_G} {cI cB cZ : ClassId} {a_this a_all a_kept a_isKept a_refused a_hand a_outs a_order0 a_bestOrder a_tells a_bytes a_anew a_values : Nat} {all : (Nat → Int32)} {above : Int64} {below_ : Int64} {bytesLong : Int32} {tokenAt : Int32} {tokenLong : Int32} {token : Int32} {value : Int32} (C0 : Cx p s m args c cX9_image 3 RX9 wsX9_image D (s_tys cI cB cZ) A) {rv : Int32 × (Nat → Int32) × (Nat → Int32) × (Nat → Int32)} (hend : ∀ (pc : Nat) (H : Heap) (locs : List Loc) (ls : Array Slot), decode cX9_image pc = .ok (.ireturn, 1) → sS D vwCl A s.heap (wd_X9_image cI cB cZ a_this a_all a_kept a_isKept a_refused a_hand a_outs a_order0 a_bestOrder a_tells a_bytes a_anew a_values all rv.2.1 rv.2.2.1 rv.2.2.2 above below_ bytesLong tokenAt tokenLong token value) H locs → W p l e rm_X9_image s m args below meth c H locs 0 0 Q (F0 m pc ls [.int rv.1])) : ∀ (fu : Nat) (kept : (Nat → Int32)) (isKept : (Nat → Int32)) (refused : (Nat → Int32)) (l1 : Int32) (l2 : Int32) (H : Heap) (locs : List Loc) (ls : Array Slot), f_X9_image_b19 all fu kept isKept refused l1 l2 = some rv → sS D vwCl A s.heap (wd_X9_image cI cB cZ a_this a_all a_kept a_isKept a_refused a_hand a_outs a_order0 a_bestOrder a_tells a_bytes a_anew a_values all kept isKept refused above below_ bytesLong tokenAt tokenLong token value) H locs → lv_has ls 3 [(0, .ref a_this), (1, .int l1), (2, .int l2)] → W p l e rm_X9_image s m args below meth c H locs 0 0 Q (F0 m 19 ls []) := by
  obtain ⟨hx, hb, hml, hown, hts, hK, hA⟩ := id C0
  have inX9 : ∀ w ∈ u_ws RX9 TX9 19, w ∈ wsX9_image := inX9_X9_image
  intro fu
  induction fu with
  | zero => intro kept isKept refused l1 l2 H locs ls h; cases h
  | succ fu ih =>
    intro kept isKept refused l1 l2 H locs ls h hS hl
    rw [f_X9_image_b19] at h
    refine lv_iload_n hx hb dX9_image_19 rfl (lv_at hl 2 rfl) ?_
    refine lv_sipush (v := (250 : Int32)) hx hb dX9_image_20 (by decide) ?_
    refine lv_icmp_ge (tgt := 50) hx hb dX9_image_23 (by decide) (fun c1 => ?_) (fun c1 => ?_)
    · replace h := s_yes c1 h
      refine lv_aload_n hx hb dX9_image_50 rfl (lv_at hl 0 rfl) ?_
      refine s_get (C := RX9) (T := TX9) (N := 19) hx hb hts inX9 hown hK hS 0 rfl rfl 2 (by decide) (hts (.fieldLink RX9 16 "InnTurnedModel" "isKept" "[Z") (List.mem_of_getElem? (i := 3) rfl)) rfl rfl dX9_image_51 ?_
      refine lv_iload_n hx hb dX9_image_54 rfl (lv_at hl 1 rfl) ?_
      refine lv_iconst (v := (1 : Int32)) hx hb dX9_image_55 (by decide) ?_
      obtain ⟨g2, h⟩ := s_guard h
      refine s_zast (ws' := (wd_X9_image cI cB cZ a_this a_all a_kept a_isKept a_refused a_hand a_outs a_order0 a_bestOrder a_tells a_bytes a_anew a_values all kept (upd isKept (Int32.toNatClampNeg l1) (vp_nar .boolean (1 : Int32))) refused above below_ bytesLong tokenAt tokenLong token value)) hx hb hK hS 3 rfl rfl g2 rfl dX9_image_56 (fun H locs hS => ?_)
      refine lv_iconst (v := (1 : Int32)) hx hb dX9_image_57 (by decide) ?_
      obtain rfl := Option.some.inj h
      exact hend _ _ _ _ dX9_image_58 hS
    replace h := s_no c1 h
    refine lv_aload_n hx hb dX9_image_26 rfl (lv_at hl 0 rfl) ?_
    refine s_get (C := RX9) (T := TX9) (N := 19) hx hb hts inX9 hown hK hS 0 rfl rfl 1 (by decide) (hts (.fieldLink RX9 13 "InnTurnedModel" "kept" "[I") (List.mem_of_getElem? (i := 1) rfl)) rfl rfl dX9_image_27 ?_
    refine lv_sipush (v := (250 : Int32)) hx hb dX9_image_30 (by decide) ?_
    refine lv_iload_n hx hb dX9_image_33 rfl (lv_at hl 1 rfl) ?_
    refine lv_imul hx hb dX9_image_34 ?_
    refine lv_iload_n hx hb dX9_image_35 rfl (lv_at hl 2 rfl) ?_
    refine lv_iadd hx hb dX9_image_36 ?_
    refine lv_aload_n hx hb dX9_image_37 rfl (lv_at hl 0 rfl) ?_
    refine s_get (C := RX9) (T := TX9) (N := 19) hx hb hts inX9 hown hK hS 0 rfl rfl 0 (by decide) (hts (.fieldLink RX9 7 "InnTurnedModel" "all" "[I") (List.mem_of_getElem? (i := 2) rfl)) rfl rfl dX9_image_38 ?_
    refine lv_iload_n hx hb dX9_image_41 rfl (lv_at hl 2 rfl) ?_
    obtain ⟨g3, h⟩ := s_guard h
    refine s_iald hx hb hK hS 1 rfl rfl g3 dX9_image_42 ?_
    obtain ⟨g4, h⟩ := s_guard h
    refine s_iast (ws' := (wd_X9_image cI cB cZ a_this a_all a_kept a_isKept a_refused a_hand a_outs a_order0 a_bestOrder a_tells a_bytes a_anew a_values all (upd kept (Int32.toNatClampNeg (((250 : Int32) * l1) + l2)) (all (Int32.toNatClampNeg l2))) isKept refused above below_ bytesLong tokenAt tokenLong token value)) hx hb hK hS 2 rfl rfl g4 rfl dX9_image_43 (fun H locs hS => ?_)
    refine lv_iinc (v := (l2 + (1 : Int32))) (lv' := [(2, .int (l2 + (1 : Int32))), (0, .ref a_this), (1, .int l1)]) hx hb dX9_image_44 hl (k := 2) rfl rfl (by decide) rfl (fun ls hl => ?_)
    refine lv_goto (tgt := 19) hx hb dX9_image_47 (by decide) ?_
    exact ih (upd kept (Int32.toNatClampNeg (((250 : Int32) * l1) + l2)) (all (Int32.toNatClampNeg l2))) isKept refused l1 (l2 + (1 : Int32)) _ _ _ h hS (lv_sub hl [1, 2, 0] rfl)
def f_X9_image  (all : (Nat → Int32)) (kept : (Nat → Int32)) (isKept : (Nat → Int32)) (refused : (Nat → Int32)) (p1 : Int32) : Option (Int32 × (Nat → Int32) × (Nat → Int32) × (Nat → Int32)) := ((f_X9_in (Int32.toInt64 p1) (0 : Int64) (1 : Int64)).bind fun q5 => (if q5 = 0 then ((f_X9_bad refused (-2 : Int32)).bind fun q7 => some (q7.1, kept, isKept, q7.2)) else f_X9_image_b19  all s_fuel kept isKept refused p1 (0 : Int32)))
set_option maxHeartbeats 4000000 in
set_option maxRecDepth 100000 in
theorem c_X9_image (l : Launch) (D : va_G) (cI cB cZ : ClassId) (a_this : Nat) (a_all : Nat) (a_kept : Nat) (a_isKept : Nat) (a_refused : Nat) (a_hand : Nat) (a_outs : Nat) (a_order0 : Nat) (a_bestOrder : Nat) (a_tells : Nat) (a_bytes : Nat) (a_anew : Nat) (a_values : Nat) (all : (Nat → Int32)) (kept : (Nat → Int32)) (isKept : (Nat → Int32)) (refused : (Nat → Int32)) (above : Int64) (below_ : Int64) (bytesLong : Int32) (tokenAt : Int32) (tokenLong : Int32) (token : Int32) (value : Int32) (p1 : Int32) (rv : Int32 × (Nat → Int32) × (Nat → Int32) × (Nat → Int32)) (sz : Nat) (hf : f_X9_image all kept isKept refused p1 = some rv) : Met l yX9_image wsX9_image rm_X9_image (sPc D vwCl (s_tys cI cB cZ) [.ref a_this, .int p1] (wd_X9_image cI cB cZ a_this a_all a_kept a_isKept a_refused a_hand a_outs a_order0 a_bestOrder a_tells a_bytes a_anew a_values all kept isKept refused above below_ bytesLong tokenAt tokenLong token value) sz) (sQi D vwCl (wd_X9_image cI cB cZ a_this a_all a_kept a_isKept a_refused a_hand a_outs a_order0 a_bestOrder a_tells a_bytes a_anew a_values all kept isKept refused above below_ bytesLong tokenAt tokenLong token value) (wd_X9_image cI cB cZ a_this a_all a_kept a_isKept a_refused a_hand a_outs a_order0 a_bestOrder a_tells a_bytes a_anew a_values all rv.2.1 rv.2.2.1 rv.2.2.2 above below_ bytesLong tokenAt tokenLong token value) sz rv.1) 0 0 (va_A (wd_X9_image cI cB cZ a_this a_all a_kept a_isKept a_refused a_hand a_outs a_order0 a_bestOrder a_tells a_bytes a_anew a_values all kept isKept refused above below_ bytesLong tokenAt tokenLong token value) sz) := by
  refine s_enter_n (cc := cX9_image) (nL := 3) (r := rv.1) (by decide) rfl (Nat.le_of_ble_eq_true rfl) ?_
  intro p e s m args below meth c A Q C0 hend ls hl hS
  have h := hf
  clear hf
  replace hl : lv_has ls 3 [(0, .ref a_this), (1, .int p1)] := hl
  unfold f_X9_image at h
  obtain ⟨hx, hb, hml, hown, hts, hK, hA⟩ := id C0
  have inX9 : ∀ w ∈ u_ws RX9 TX9 19, w ∈ wsX9_image := inX9_X9_image
  refine lv_iload_n hx hb dX9_image_0 rfl (lv_at hl 1 rfl) ?_
  refine lv_i2l (v := (Int32.toInt64 p1)) hx hb dX9_image_1 rfl ?_
  refine lv_lconst (v := (0 : Int64)) hx hb dX9_image_2 (by decide) ?_
  refine lv_lconst (v := (1 : Int64)) hx hb dX9_image_3 (by decide) ?_
  obtain ⟨q5, hq5, h⟩ := s_bind h
  refine u_calliS (r := q5) (As := [.long (Int32.toInt64 p1), .long (0 : Int64), .long (1 : Int64)]) (rest := []) (wc := ([] : va_W)) hx hb hml hown hts hK hA hl hS (c_X9_in l D cI cB cZ (Int32.toInt64 p1) (0 : Int64) (1 : Int64) _ _ hq5) (va_cwS 3 hts gX9_image_X9_in rfl rfl rfl (by decide +kernel) ⟨Nat.le_of_ble_eq_true rfl, Nat.le_of_ble_eq_true rfl⟩) [] rfl rfl rfl rfl (Nat.le_of_ble_eq_true rfl) dX9_image_4 (fun H locs hS => ?_)
  refine lv_if_ne (tgt := 17) hx hb dX9_image_7 (by decide) (fun c6 => ?_) (fun c6 => ?_)
  · replace h := s_no c6 h
    refine lv_iconst (v := (0 : Int32)) hx hb dX9_image_17 (by decide) ?_
    refine lv_istore_n (lv' := [(2, .int (0 : Int32)), (0, .ref a_this), (1, .int p1)]) hx hb dX9_image_18 rfl hl (by decide) rfl (fun ls hl => ?_)
    exact w_X9_image_b19 C0 hend  s_fuel kept isKept refused p1 (0 : Int32) _ _ _ h hS (lv_sub hl [1, 2, 0] rfl)
  replace h := s_yes c6 h
  refine lv_aload_n hx hb dX9_image_10 rfl (lv_at hl 0 rfl) ?_
  refine lv_bipush (v := (-2 : Int32)) hx hb dX9_image_11 (by decide) ?_
  obtain ⟨q7, hq7, h⟩ := s_bind h
  refine r_calliV (r := q7.1) (As := [.int (-2 : Int32)]) (rest := []) (wc := (wd_X9_bad cI cB cZ a_this a_all a_kept a_isKept a_refused a_hand a_outs a_order0 a_bestOrder a_tells a_bytes a_anew a_values refused above below_ bytesLong tokenAt tokenLong token value)) (w1 := (wd_X9_bad cI cB cZ a_this a_all a_kept a_isKept a_refused a_hand a_outs a_order0 a_bestOrder a_tells a_bytes a_anew a_values q7.2 above below_ bytesLong tokenAt tokenLong token value)) (ws' := (wd_X9_image cI cB cZ a_this a_all a_kept a_isKept a_refused a_hand a_outs a_order0 a_bestOrder a_tells a_bytes a_anew a_values all kept isKept q7.2 above below_ bytesLong tokenAt tokenLong token value)) hx hb hml hown hts hK hA hl hS (c_X9_bad l D cI cB cZ a_this a_all a_kept a_isKept a_refused a_hand a_outs a_order0 a_bestOrder a_tells a_bytes a_anew a_values refused above below_ bytesLong tokenAt tokenLong token value (-2 : Int32) _ _ hq7) (cwV 1 hts gX9_image_X9_bad rfl rfl rfl (by decide +kernel) ⟨Nat.le_of_ble_eq_true rfl, Nat.le_of_ble_eq_true rfl⟩) 0 rfl rfl [0, 4] rfl rfl rfl [.inr 0, .inl 1, .inl 2, .inl 3, .inr 1] rfl rfl rfl rfl (Nat.le_of_ble_eq_true rfl) dX9_image_13 (fun H locs hS => ?_)
  obtain rfl := Option.some.inj h
  exact hend _ _ _ _ dX9_image_16 hS

