-- InnTurnedModel.door(I)I
def wd_X9_door (cI cB cZ : ClassId) (a_this : Nat) (a_all : Nat) (a_kept : Nat) (a_isKept : Nat) (a_refused : Nat) (a_hand : Nat) (a_outs : Nat) (a_order0 : Nat) (a_bestOrder : Nat) (a_tells : Nat) (a_bytes : Nat) (a_anew : Nat) (a_values : Nat)  (all : (Nat → Int32)) (refused : (Nat → Int32)) (above : Int64) (below_ : Int64) (bytesLong : Int32) (tokenAt : Int32) (tokenLong : Int32) (token : Int32) (value : Int32) : va_W := [(a_this, .inr (6, [.ref a_all, .ref a_kept, .ref a_isKept, .ref a_refused, .long above, .long below_, .ref a_hand, .ref a_outs, .ref a_order0, .ref a_bestOrder, .ref a_tells, .ref a_bytes, .int bytesLong, .int tokenAt, .int tokenLong, .int token, .int value, .ref a_anew, .ref a_values])), (a_all, .inl (cI, 250, .inl all)), (a_refused, .inl (cI, 3, .inl refused))]
abbrev rm_X9_door : Room := { frames := 2, cells := 0, slots := 0, locals := 46 }
set_option maxRecDepth 20000 in
theorem inX9_X9_door : ∀ w ∈ u_ws RX9 TX9 19, w ∈ wsX9_door := by decide +kernel
def f_X9_door_b160 (k_b63 : (Nat → Int32) → Int32 → Int32 → Int32 → Option (Int32 × (Nat → Int32)))  (all : (Nat → Int32)) (refused : (Nat → Int32)) (l2 : Int32) (l4 : Int32) (t0 : Int32) (t1 : Int32) : Option (Int32 × (Nat → Int32)) := k_b63 refused l2 (t1 ||| t0) (l4 + (1 : Int32))
set_option maxHeartbeats 4000000 in
set_option maxRecDepth 100000 in
theorem w_X9_door_b160 {p : Program} {l : Launch} {e : Env} {s : State} {m : MethodId} {args : Array Value} {below : List Frame} {meth : Method} {c : Code} {A : Nat → Prop} {Q : State → Prop} {D : va_G} {cI cB cZ : ClassId} {a_this a_all a_kept a_isKept a_refused a_hand a_outs a_order0 a_bestOrder a_tells a_bytes a_anew a_values : Nat} {all : (Nat → Int32)} {above : Int64} {below_ : Int64} {bytesLong : Int32} {tokenAt : Int32} {tokenLong : Int32} {token : Int32} {value : Int32} (C0 : Cx p s m args c cX9_door 8 RX9 wsX9_door D (s_tys cI cB cZ) A) {rv : Int32 × (Nat → Int32)} (hend : ∀ (pc : Nat) (H : Heap) (locs : List Loc) (ls : Array Slot), decode cX9_door pc = .ok (.ireturn, 1) → sS D vwCl A s.heap (wd_X9_door cI cB cZ a_this a_all a_kept a_isKept a_refused a_hand a_outs a_order0 a_bestOrder a_tells a_bytes a_anew a_values all rv.2 above below_ bytesLong tokenAt tokenLong token value) H locs → W p l e rm_X9_door s m args below meth c H locs 0 0 Q (F0 m pc ls [.int rv.1])) (k_b63 : (Nat → Int32) → Int32 → Int32 → Int32 → Option (Int32 × (Nat → Int32))) (hk_b63 : ∀ (refused : (Nat → Int32)) (l2 : Int32) (l3 : Int32) (l4 : Int32) (H : Heap) (locs : List Loc) (ls : Array Slot), k_b63 refused l2 l3 l4 = some rv → sS D vwCl A s.heap (wd_X9_door cI cB cZ a_this a_all a_kept a_isKept a_refused a_hand a_outs a_order0 a_bestOrder a_tells a_bytes a_anew a_values all refused above below_ bytesLong tokenAt tokenLong token value) H locs → lv_has ls 8 [(2, .int l2), (3, .int l3), (4, .int l4)] → W p l e rm_X9_door s m args below meth c H locs 0 0 Q (F0 m 63 ls [])) : ∀ (refused : (Nat → Int32)) (l2 : Int32) (l4 : Int32) (t0 : Int32) (t1 : Int32) (H : Heap) (locs : List Loc) (ls : Array Slot), f_X9_door_b160 k_b63 all refused l2 l4 t0 t1 = some rv → sS D vwCl A s.heap (wd_X9_door cI cB cZ a_this a_all a_kept a_isKept a_refused a_hand a_outs a_order0 a_bestOrder a_tells a_bytes a_anew a_values all refused above below_ bytesLong tokenAt tokenLong token value) H locs → lv_has ls 8 [(2, .int l2), (4, .int l4)] → W p l e rm_X9_door s m args below meth c H locs 0 0 Q (F0 m 160 ls [.int t0, .int t1]) := by
  obtain ⟨hx, hb, hml, hown, hts, hK, hA⟩ := id C0
  have inX9 : ∀ w ∈ u_ws RX9 TX9 19, w ∈ wsX9_door := inX9_X9_door
  intro refused l2 l4 t0 t1 H locs ls h hS hl
  unfold f_X9_door_b160 at h
  refine lv_ior hx hb dX9_door_160 ?_
  refine lv_istore_n (lv' := [(3, .int (t1 ||| t0)), (2, .int l2), (4, .int l4)]) hx hb dX9_door_161 rfl hl (by decide) rfl (fun ls hl => ?_)
  refine lv_iinc (v := (l4 + (1 : Int32))) (lv' := [(4, .int (l4 + (1 : Int32))), (3, .int (t1 ||| t0)), (2, .int l2)]) hx hb dX9_door_162 hl (k := 2) rfl rfl (by decide) rfl (fun ls hl => ?_)
  refine lv_goto (tgt := 63) hx hb dX9_door_165 (by decide) ?_
  exact hk_b63 refused l2 (t1 ||| t0) (l4 + (1 : Int32)) _ _ _ h hS (lv_sub hl [2, 1, 0] rfl)
def f_X9_door_b144 (k_b63 : (Nat → Int32) → Int32 → Int32 → Int32 → Option (Int32 × (Nat → Int32)))  (all : (Nat → Int32)) (refused : (Nat → Int32)) (l2 : Int32) (l3 : Int32) (l4 : Int32) (t0 : Int32) : Option (Int32 × (Nat → Int32)) := (if t0 = 0 then f_X9_door_b160 k_b63 all refused l2 l4 (0 : Int32) l3 else f_X9_door_b160 k_b63 all refused l2 l4 ((1 : Int32) <<< (l4 &&& 31)) l3)
set_option maxHeartbeats 4000000 in
set_option maxRecDepth 100000 in
theorem w_X9_door_b144 {p : Program} {l : Launch} {e : Env} {s : State} {m : MethodId} {args : Array Value} {below : List Frame} {meth : Method} {c : Code} {A : Nat → Prop} {Q : State → Prop} {D : va_G} {cI cB cZ : ClassId} {a_this a_all a_kept a_isKept a_refused a_hand a_outs a_order0 a_bestOrder a_tells a_bytes a_anew a_values : Nat} {all : (Nat → Int32)} {above : Int64} {below_ : Int64} {bytesLong : Int32} {tokenAt : Int32} {tokenLong : Int32} {token : Int32} {value : Int32} (C0 : Cx p s m args c cX9_door 8 RX9 wsX9_door D (s_tys cI cB cZ) A) {rv : Int32 × (Nat → Int32)} (hend : ∀ (pc : Nat) (H : Heap) (locs : List Loc) (ls : Array Slot), decode cX9_door pc = .ok (.ireturn, 1) → sS D vwCl A s.heap (wd_X9_door cI cB cZ a_this a_all a_kept a_isKept a_refused a_hand a_outs a_order0 a_bestOrder a_tells a_bytes a_anew a_values all rv.2 above below_ bytesLong tokenAt tokenLong token value) H locs → W p l e rm_X9_door s m args below meth c H locs 0 0 Q (F0 m pc ls [.int rv.1])) (k_b63 : (Nat → Int32) → Int32 → Int32 → Int32 → Option (Int32 × (Nat → Int32))) (hk_b63 : ∀ (refused : (Nat → Int32)) (l2 : Int32) (l3 : Int32) (l4 : Int32) (H : Heap) (locs : List Loc) (ls : Array Slot), k_b63 refused l2 l3 l4 = some rv → sS D vwCl A s.heap (wd_X9_door cI cB cZ a_this a_all a_kept a_isKept a_refused a_hand a_outs a_order0 a_bestOrder a_tells a_bytes a_anew a_values all refused above below_ bytesLong tokenAt tokenLong token value) H locs → lv_has ls 8 [(2, .int l2), (3, .int l3), (4, .int l4)] → W p l e rm_X9_door s m args below meth c H locs 0 0 Q (F0 m 63 ls [])) : ∀ (refused : (Nat → Int32)) (l2 : Int32) (l3 : Int32) (l4 : Int32) (t0 : Int32) (H : Heap) (locs : List Loc) (ls : Array Slot), f_X9_door_b144 k_b63 all refused l2 l3 l4 t0 = some rv → sS D vwCl A s.heap (wd_X9_door cI cB cZ a_this a_all a_kept a_isKept a_refused a_hand a_outs a_order0 a_bestOrder a_tells a_bytes a_anew a_values all refused above below_ bytesLong tokenAt tokenLong token value) H locs → lv_has ls 8 [(2, .int l2), (3, .int l3), (4, .int l4)] → W p l e rm_X9_door s m args below meth c H locs 0 0 Q (F0 m 144 ls [.int t0]) := by
  obtain ⟨hx, hb, hml, hown, hts, hK, hA⟩ := id C0
  have inX9 : ∀ w ∈ u_ws RX9 TX9 19, w ∈ wsX9_door := inX9_X9_door
  intro refused l2 l3 l4 t0 H locs ls h hS hl
  unfold f_X9_door_b144 at h
  refine lv_istore (lv' := [(7, .int t0), (2, .int l2), (3, .int l3), (4, .int l4)]) hx hb dX9_door_144 hl (by decide) rfl (fun ls hl => ?_)
  refine lv_iload_n hx hb dX9_door_146 rfl (lv_at hl 2 rfl) ?_
  refine lv_iload hx hb dX9_door_147 (lv_at hl 0 rfl) ?_
  refine lv_if_eq (tgt := 159) hx hb dX9_door_149 (by decide) (fun c1 => ?_) (fun c1 => ?_)
  · replace h := s_yes c1 h
    refine lv_iconst (v := (0 : Int32)) hx hb dX9_door_159 (by decide) ?_
    exact w_X9_door_b160 C0 hend k_b63 hk_b63 refused l2 l4 (0 : Int32) l3 _ _ _ h hS (lv_sub hl [1, 3] rfl)
  replace h := s_no c1 h
  refine lv_iconst (v := (1 : Int32)) hx hb dX9_door_152 (by decide) ?_
  refine lv_iload hx hb dX9_door_153 (lv_at hl 3 rfl) ?_
  refine lv_ishl hx hb dX9_door_155 ?_
  refine lv_goto (tgt := 160) hx hb dX9_door_156 (by decide) ?_
  exact w_X9_door_b160 C0 hend k_b63 hk_b63 refused l2 l4 ((1 : Int32) <<< (l4 &&& 31)) l3 _ _ _ h hS (lv_sub hl [1, 3] rfl)
def f_X9_door_b143 (k_b63 : (Nat → Int32) → Int32 → Int32 → Int32 → Option (Int32 × (Nat → Int32)))  (all : (Nat → Int32)) (refused : (Nat → Int32)) (l2 : Int32) (l3 : Int32) (l4 : Int32) : Option (Int32 × (Nat → Int32)) := f_X9_door_b144 k_b63 all refused l2 l3 l4 (0 : Int32)
set_option maxHeartbeats 4000000 in
set_option maxRecDepth 100000 in
theorem w_X9_door_b143 {p : Program} {l : Launch} {e : Env} {s : State} {m : MethodId} {args : Array Value} {below : List Frame} {meth : Method} {c : Code} {A : Nat → Prop} {Q : State → Prop} {D : va_G} {cI cB cZ : ClassId} {a_this a_all a_kept a_isKept a_refused a_hand a_outs a_order0 a_bestOrder a_tells a_bytes a_anew a_values : Nat} {all : (Nat → Int32)} {above : Int64} {below_ : Int64} {bytesLong : Int32} {tokenAt : Int32} {tokenLong : Int32} {token : Int32} {value : Int32} (C0 : Cx p s m args c cX9_door 8 RX9 wsX9_door D (s_tys cI cB cZ) A) {rv : Int32 × (Nat → Int32)} (hend : ∀ (pc : Nat) (H : Heap) (locs : List Loc) (ls : Array Slot), decode cX9_door pc = .ok (.ireturn, 1) → sS D vwCl A s.heap (wd_X9_door cI cB cZ a_this a_all a_kept a_isKept a_refused a_hand a_outs a_order0 a_bestOrder a_tells a_bytes a_anew a_values all rv.2 above below_ bytesLong tokenAt tokenLong token value) H locs → W p l e rm_X9_door s m args below meth c H locs 0 0 Q (F0 m pc ls [.int rv.1])) (k_b63 : (Nat → Int32) → Int32 → Int32 → Int32 → Option (Int32 × (Nat → Int32))) (hk_b63 : ∀ (refused : (Nat → Int32)) (l2 : Int32) (l3 : Int32) (l4 : Int32) (H : Heap) (locs : List Loc) (ls : Array Slot), k_b63 refused l2 l3 l4 = some rv → sS D vwCl A s.heap (wd_X9_door cI cB cZ a_this a_all a_kept a_isKept a_refused a_hand a_outs a_order0 a_bestOrder a_tells a_bytes a_anew a_values all refused above below_ bytesLong tokenAt tokenLong token value) H locs → lv_has ls 8 [(2, .int l2), (3, .int l3), (4, .int l4)] → W p l e rm_X9_door s m args below meth c H locs 0 0 Q (F0 m 63 ls [])) : ∀ (refused : (Nat → Int32)) (l2 : Int32) (l3 : Int32) (l4 : Int32) (H : Heap) (locs : List Loc) (ls : Array Slot), f_X9_door_b143 k_b63 all refused l2 l3 l4 = some rv → sS D vwCl A s.heap (wd_X9_door cI cB cZ a_this a_all a_kept a_isKept a_refused a_hand a_outs a_order0 a_bestOrder a_tells a_bytes a_anew a_values all refused above below_ bytesLong tokenAt tokenLong token value) H locs → lv_has ls 8 [(2, .int l2), (3, .int l3), (4, .int l4)] → W p l e rm_X9_door s m args below meth c H locs 0 0 Q (F0 m 143 ls []) := by
  obtain ⟨hx, hb, hml, hown, hts, hK, hA⟩ := id C0
  have inX9 : ∀ w ∈ u_ws RX9 TX9 19, w ∈ wsX9_door := inX9_X9_door
  intro refused l2 l3 l4 H locs ls h hS hl
  unfold f_X9_door_b143 at h
  refine lv_iconst (v := (0 : Int32)) hx hb dX9_door_143 (by decide) ?_
  exact w_X9_door_b144 C0 hend k_b63 hk_b63 refused l2 l3 l4 (0 : Int32) _ _ _ h hS (lv_sub hl [0, 1, 2] rfl)
def f_X9_door_b132 (k_b63 : (Nat → Int32) → Int32 → Int32 → Int32 → Option (Int32 × (Nat → Int32)))  (all : (Nat → Int32)) (refused : (Nat → Int32)) (l2 : Int32) (l3 : Int32) (l4 : Int32) (t0 : Int32) (t1 : Int32) (t2 : Int32) : Option (Int32 × (Nat → Int32)) := ((f_X9_toHost t1 t0 l2).bind fun q2 => (if t2 < q2 then f_X9_door_b143 k_b63 all refused l2 l3 l4 else f_X9_door_b144 k_b63 all refused l2 l3 l4 (1 : Int32)))
set_option maxHeartbeats 4000000 in
set_option maxRecDepth 100000 in
theorem w_X9_door_b132 {p : Program} {l : Launch} {e : Env} {s : State} {m : MethodId} {args : Array Value} {below : List Frame} {meth : Method} {c : Code} {A : Nat → Prop} {Q : State → Prop} {D : va_G} {cI cB cZ : ClassId} {a_this a_all a_kept a_isKept a_refused a_hand a_outs a_order0 a_bestOrder a_tells a_bytes a_anew a_values : Nat} {all : (Nat → Int32)} {above : Int64} {below_ : Int64} {bytesLong : Int32} {tokenAt : Int32} {tokenLong : Int32} {token : Int32} {value : Int32} (C0 : Cx p s m args c cX9_door 8 RX9 wsX9_door D (s_tys cI cB cZ) A) {rv : Int32 × (Nat → Int32)} (hend : ∀ (pc : Nat) (H : Heap) (locs : List Loc) (ls : Array Slot), decode cX9_door pc = .ok (.ireturn, 1) → sS D vwCl A s.heap (wd_X9_door cI cB cZ a_this a_all a_kept a_isKept a_refused a_hand a_outs a_order0 a_bestOrder a_tells a_bytes a_anew a_values all rv.2 above below_ bytesLong tokenAt tokenLong token value) H locs → W p l e rm_X9_door s m args below meth c H locs 0 0 Q (F0 m pc ls [.int rv.1])) (k_b63 : (Nat → Int32) → Int32 → Int32 → Int32 → Option (Int32 × (Nat → Int32))) (hk_b63 : ∀ (refused : (Nat → Int32)) (l2 : Int32) (l3 : Int32) (l4 : Int32) (H : Heap) (locs : List Loc) (ls : Array Slot), k_b63 refused l2 l3 l4 = some rv → sS D vwCl A s.heap (wd_X9_door cI cB cZ a_this a_all a_kept a_isKept a_refused a_hand a_outs a_order0 a_bestOrder a_tells a_bytes a_anew a_values all refused above below_ bytesLong tokenAt tokenLong token value) H locs → lv_has ls 8 [(2, .int l2), (3, .int l3), (4, .int l4)] → W p l e rm_X9_door s m args below meth c H locs 0 0 Q (F0 m 63 ls [])) : ∀ (refused : (Nat → Int32)) (l2 : Int32) (l3 : Int32) (l4 : Int32) (t0 : Int32) (t1 : Int32) (t2 : Int32) (H : Heap) (locs : List Loc) (ls : Array Slot), f_X9_door_b132 k_b63 all refused l2 l3 l4 t0 t1 t2 = some rv → sS D vwCl A s.heap (wd_X9_door cI cB cZ a_this a_all a_kept a_isKept a_refused a_hand a_outs a_order0 a_bestOrder a_tells a_bytes a_anew a_values all refused above below_ bytesLong tokenAt tokenLong token value) H locs → lv_has ls 8 [(2, .int l2), (3, .int l3), (4, .int l4)] → W p l e rm_X9_door s m args below meth c H locs 0 0 Q (F0 m 132 ls [.int t0, .int t1, .int t2]) := by
  obtain ⟨hx, hb, hml, hown, hts, hK, hA⟩ := id C0
  have inX9 : ∀ w ∈ u_ws RX9 TX9 19, w ∈ wsX9_door := inX9_X9_door
  intro refused l2 l3 l4 t0 t1 t2 H locs ls h hS hl
  unfold f_X9_door_b132 at h
  refine lv_iload_n hx hb dX9_door_132 rfl (lv_at hl 0 rfl) ?_
  obtain ⟨q2, hq2, h⟩ := s_bind h
  refine u_calliS (r := q2) (As := [.int t1, .int t0, .int l2]) (rest := [.int t2]) (wc := ([] : va_W)) hx hb hml hown hts hK hA hl hS (c_X9_toHost l D cI cB cZ t1 t0 l2 _ _ hq2) (va_cwS 3 hts gX9_door_X9_toHost rfl rfl rfl (by decide +kernel) ⟨Nat.le_of_ble_eq_true rfl, Nat.le_of_ble_eq_true rfl⟩) [] rfl rfl rfl rfl (Nat.le_of_ble_eq_true rfl) dX9_door_133 (fun H locs hS => ?_)
  refine lv_icmp_lt (tgt := 143) hx hb dX9_door_136 (by decide) (fun c3 => ?_) (fun c3 => ?_)
  · replace h := s_yes c3 h
    exact w_X9_door_b143 C0 hend k_b63 hk_b63 refused l2 l3 l4 _ _ _ h hS (lv_sub hl [0, 1, 2] rfl)
  replace h := s_no c3 h
  refine lv_iconst (v := (1 : Int32)) hx hb dX9_door_139 (by decide) ?_
  refine lv_goto (tgt := 144) hx hb dX9_door_140 (by decide) ?_
  exact w_X9_door_b144 C0 hend k_b63 hk_b63 refused l2 l3 l4 (1 : Int32) _ _ _ h hS (lv_sub hl [0, 1, 2] rfl)
def f_X9_door_b103 (k_b63 : (Nat → Int32) → Int32 → Int32 → Int32 → Option (Int32 × (Nat → Int32)))  (all : (Nat → Int32)) (refused : (Nat → Int32)) (l2 : Int32) (l3 : Int32) (l4 : Int32) (l5 : Int32) (l6 : Int32) (t0 : Int32) (t1 : Int32) : Option (Int32 × (Nat → Int32)) := ((f_X9_toGuest t0 l6 l2).bind fun q4 => (if t1 < q4 then f_X9_door_b143 k_b63 all refused l2 l3 l4 else ((f_X9_toHost l5 l6 l2).bind fun q6 => (if l6 = 0 then f_X9_door_b132 k_b63 all refused l2 l3 l4 (1 : Int32) l5 q6 else f_X9_door_b132 k_b63 all refused l2 l3 l4 (0 : Int32) l5 q6))))
set_option maxHeartbeats 4000000 in
set_option maxRecDepth 100000 in
theorem w_X9_door_b103 {p : Program} {l : Launch} {e : Env} {s : State} {m : MethodId} {args : Array Value} {below : List Frame} {meth : Method} {c : Code} {A : Nat → Prop} {Q : State → Prop} {D : va_G} {cI cB cZ : ClassId} {a_this a_all a_kept a_isKept a_refused a_hand a_outs a_order0 a_bestOrder a_tells a_bytes a_anew a_values : Nat} {all : (Nat → Int32)} {above : Int64} {below_ : Int64} {bytesLong : Int32} {tokenAt : Int32} {tokenLong : Int32} {token : Int32} {value : Int32} (C0 : Cx p s m args c cX9_door 8 RX9 wsX9_door D (s_tys cI cB cZ) A) {rv : Int32 × (Nat → Int32)} (hend : ∀ (pc : Nat) (H : Heap) (locs : List Loc) (ls : Array Slot), decode cX9_door pc = .ok (.ireturn, 1) → sS D vwCl A s.heap (wd_X9_door cI cB cZ a_this a_all a_kept a_isKept a_refused a_hand a_outs a_order0 a_bestOrder a_tells a_bytes a_anew a_values all rv.2 above below_ bytesLong tokenAt tokenLong token value) H locs → W p l e rm_X9_door s m args below meth c H locs 0 0 Q (F0 m pc ls [.int rv.1])) (k_b63 : (Nat → Int32) → Int32 → Int32 → Int32 → Option (Int32 × (Nat → Int32))) (hk_b63 : ∀ (refused : (Nat → Int32)) (l2 : Int32) (l3 : Int32) (l4 : Int32) (H : Heap) (locs : List Loc) (ls : Array Slot), k_b63 refused l2 l3 l4 = some rv → sS D vwCl A s.heap (wd_X9_door cI cB cZ a_this a_all a_kept a_isKept a_refused a_hand a_outs a_order0 a_bestOrder a_tells a_bytes a_anew a_values all refused above below_ bytesLong tokenAt tokenLong token value) H locs → lv_has ls 8 [(2, .int l2), (3, .int l3), (4, .int l4)] → W p l e rm_X9_door s m args below meth c H locs 0 0 Q (F0 m 63 ls [])) : ∀ (refused : (Nat → Int32)) (l2 : Int32) (l3 : Int32) (l4 : Int32) (l5 : Int32) (l6 : Int32) (t0 : Int32) (t1 : Int32) (H : Heap) (locs : List Loc) (ls : Array Slot), f_X9_door_b103 k_b63 all refused l2 l3 l4 l5 l6 t0 t1 = some rv → sS D vwCl A s.heap (wd_X9_door cI cB cZ a_this a_all a_kept a_isKept a_refused a_hand a_outs a_order0 a_bestOrder a_tells a_bytes a_anew a_values all refused above below_ bytesLong tokenAt tokenLong token value) H locs → lv_has ls 8 [(2, .int l2), (3, .int l3), (4, .int l4), (5, .int l5), (6, .int l6)] → W p l e rm_X9_door s m args below meth c H locs 0 0 Q (F0 m 103 ls [.int t0, .int t1]) := by
  obtain ⟨hx, hb, hml, hown, hts, hK, hA⟩ := id C0
  have inX9 : ∀ w ∈ u_ws RX9 TX9 19, w ∈ wsX9_door := inX9_X9_door
  intro refused l2 l3 l4 l5 l6 t0 t1 H locs ls h hS hl
  unfold f_X9_door_b103 at h
  refine lv_iload hx hb dX9_door_103 (lv_at hl 4 rfl) ?_
  refine lv_iload_n hx hb dX9_door_105 rfl (lv_at hl 0 rfl) ?_
  obtain ⟨q4, hq4, h⟩ := s_bind h
  refine u_calliS (r := q4) (As := [.int t0, .int l6, .int l2]) (rest := [.int t1]) (wc := ([] : va_W)) hx hb hml hown hts hK hA hl hS (c_X9_toGuest l D cI cB cZ t0 l6 l2 _ _ hq4) (va_cwS 3 hts gX9_door_X9_toGuest rfl rfl rfl (by decide +kernel) ⟨Nat.le_of_ble_eq_true rfl, Nat.le_of_ble_eq_true rfl⟩) [] rfl rfl rfl rfl (Nat.le_of_ble_eq_true rfl) dX9_door_106 (fun H locs hS => ?_)
  refine lv_icmp_lt (tgt := 143) hx hb dX9_door_109 (by decide) (fun c5 => ?_) (fun c5 => ?_)
  · replace h := s_yes c5 h
    exact w_X9_door_b143 C0 hend k_b63 hk_b63 refused l2 l3 l4 _ _ _ h hS (lv_sub hl [0, 1, 2] rfl)
  replace h := s_no c5 h
  refine lv_iload hx hb dX9_door_112 (lv_at hl 3 rfl) ?_
  refine lv_iload hx hb dX9_door_114 (lv_at hl 4 rfl) ?_
  refine lv_iload_n hx hb dX9_door_116 rfl (lv_at hl 0 rfl) ?_
  obtain ⟨q6, hq6, h⟩ := s_bind h
  refine u_calliS (r := q6) (As := [.int l5, .int l6, .int l2]) (rest := []) (wc := ([] : va_W)) hx hb hml hown hts hK hA hl hS (c_X9_toHost l D cI cB cZ l5 l6 l2 _ _ hq6) (va_cwS 3 hts gX9_door_X9_toHost rfl rfl rfl (by decide +kernel) ⟨Nat.le_of_ble_eq_true rfl, Nat.le_of_ble_eq_true rfl⟩) [] rfl rfl rfl rfl (Nat.le_of_ble_eq_true rfl) dX9_door_117 (fun H locs hS => ?_)
  refine lv_iload hx hb dX9_door_120 (lv_at hl 3 rfl) ?_
  refine lv_iload hx hb dX9_door_122 (lv_at hl 4 rfl) ?_
  refine lv_if_ne (tgt := 131) hx hb dX9_door_124 (by decide) (fun c7 => ?_) (fun c7 => ?_)
  · replace h := s_no c7 h
    refine lv_iconst (v := (0 : Int32)) hx hb dX9_door_131 (by decide) ?_
    exact w_X9_door_b132 C0 hend k_b63 hk_b63 refused l2 l3 l4 (0 : Int32) l5 q6 _ _ _ h hS (lv_sub hl [0, 1, 2] rfl)
  replace h := s_yes c7 h
  refine lv_iconst (v := (1 : Int32)) hx hb dX9_door_127 (by decide) ?_
  refine lv_goto (tgt := 132) hx hb dX9_door_128 (by decide) ?_
  exact w_X9_door_b132 C0 hend k_b63 hk_b63 refused l2 l3 l4 (1 : Int32) l5 q6 _ _ _ h hS (lv_sub hl [0, 1, 2] rfl)
def f_X9_door_b63  (all : (Nat → Int32)) : Nat → (Nat → Int32) → Int32 → Int32 → Int32 → Option (Int32 × (Nat → Int32))
  | 0, _, _, _, _ => none
  | fu + 1, refused, l2, l3, l4 => (if (4 : Int32) ≤ l4 then some (l3, refused) else ((f_X9_has l4 (0 : Int32)).bind fun q9 => ((f_X9_has l4 (1 : Int32)).bind fun q10 => ((f_X9_toGuest q9 q10 l2).bind fun q11 => (if q9 = 0 then f_X9_door_b103 (f_X9_door_b63 all fu) all refused l2 l3 l4 q9 q10 (1 : Int32) q11 else f_X9_door_b103 (f_X9_door_b63 all fu) all refused l2 l3 l4 q9 q10 (0 : Int32) q11)))))
set_option maxHeartbeats 4000000 in
set_option maxRecDepth 100000 in
theorem w_X9_door_b63 {p : Program} {l : Launch} {e : Env} {s : State} {m : MethodId} {args : Array Value} {below : List Frame} {meth : Method} {c : Code} {A : Nat → Prop} {Q : State → Prop} {D : va_G} {cI cB cZ : ClassId} {a_this a_all a_kept a_isKept a_refused a_hand a_outs a_order0 a_bestOrder a_tells a_bytes a_anew a_values : Nat} {all : (Nat → Int32)} {above : Int64} {below_ : Int64} {bytesLong : Int32} {tokenAt : Int32} {tokenLong : Int32} {token : Int32} {value : Int32} (C0 : Cx p s m args c cX9_door 8 RX9 wsX9_door D (s_tys cI cB cZ) A) {rv : Int32 × (Nat → Int32)} (hend : ∀ (pc : Nat) (H : Heap) (locs : List Loc) (ls : Array Slot), decode cX9_door pc = .ok (.ireturn, 1) → sS D vwCl A s.heap (wd_X9_door cI cB cZ a_this a_all a_kept a_isKept a_refused a_hand a_outs a_order0 a_bestOrder a_tells a_bytes a_anew a_values all rv.2 above below_ bytesLong tokenAt tokenLong token value) H locs → W p l e rm_X9_door s m args below meth c H locs 0 0 Q (F0 m pc ls [.int rv.1])) : ∀ (fu : Nat) (refused : (Nat → Int32)) (l2 : Int32) (l3 : Int32) (l4 : Int32) (H : Heap) (locs : List Loc) (ls : Array Slot), f_X9_door_b63 all fu refused l2 l3 l4 = some rv → sS D vwCl A s.heap (wd_X9_door cI cB cZ a_this a_all a_kept a_isKept a_refused a_hand a_outs a_order0 a_bestOrder a_tells a_bytes a_anew a_values all refused above below_ bytesLong tokenAt tokenLong token value) H locs → lv_has ls 8 [(2, .int l2), (3, .int l3), (4, .int l4)] → W p l e rm_X9_door s m args below meth c H locs 0 0 Q (F0 m 63 ls []) := by
  obtain ⟨hx, hb, hml, hown, hts, hK, hA⟩ := id C0
  have inX9 : ∀ w ∈ u_ws RX9 TX9 19, w ∈ wsX9_door := inX9_X9_door
  intro fu
  induction fu with
  | zero => intro refused l2 l3 l4 H locs ls h; cases h
  | succ fu ih =>
    intro refused l2 l3 l4 H locs ls h hS hl
    rw [f_X9_door_b63] at h
    refine lv_iload hx hb dX9_door_63 (lv_at hl 2 rfl) ?_
    refine lv_iconst (v := (4 : Int32)) hx hb dX9_door_65 (by decide) ?_
    refine lv_icmp_ge (tgt := 168) hx hb dX9_door_66 (by decide) (fun c8 => ?_) (fun c8 => ?_)
    · replace h := s_yes c8 h
      refine lv_iload_n hx hb dX9_door_168 rfl (lv_at hl 1 rfl) ?_
      obtain rfl := Option.some.inj h
      exact hend _ _ _ _ dX9_door_169 hS
    replace h := s_no c8 h
    refine lv_iload hx hb dX9_door_69 (lv_at hl 2 rfl) ?_
    refine lv_iconst (v := (0 : Int32)) hx hb dX9_door_71 (by decide) ?_
    obtain ⟨q9, hq9, h⟩ := s_bind h
    refine u_calliS (r := q9) (As := [.int l4, .int (0 : Int32)]) (rest := []) (wc := ([] : va_W)) hx hb hml hown hts hK hA hl hS (c_X9_has l D cI cB cZ l4 (0 : Int32) _ _ hq9) (va_cwS 2 hts gX9_door_X9_has rfl rfl rfl (by decide +kernel) ⟨Nat.le_of_ble_eq_true rfl, Nat.le_of_ble_eq_true rfl⟩) [] rfl rfl rfl rfl (Nat.le_of_ble_eq_true rfl) dX9_door_72 (fun H locs hS => ?_)
    refine lv_istore (lv' := [(5, .int q9), (2, .int l2), (3, .int l3), (4, .int l4)]) hx hb dX9_door_75 hl (by decide) rfl (fun ls hl => ?_)
    refine lv_iload hx hb dX9_door_77 (lv_at hl 3 rfl) ?_
    refine lv_iconst (v := (1 : Int32)) hx hb dX9_door_79 (by decide) ?_
    obtain ⟨q10, hq10, h⟩ := s_bind h
    refine u_calliS (r := q10) (As := [.int l4, .int (1 : Int32)]) (rest := []) (wc := ([] : va_W)) hx hb hml hown hts hK hA hl hS (c_X9_has l D cI cB cZ l4 (1 : Int32) _ _ hq10) (va_cwS 2 hts gX9_door_X9_has rfl rfl rfl (by decide +kernel) ⟨Nat.le_of_ble_eq_true rfl, Nat.le_of_ble_eq_true rfl⟩) [] rfl rfl rfl rfl (Nat.le_of_ble_eq_true rfl) dX9_door_80 (fun H locs hS => ?_)
    refine lv_istore (lv' := [(6, .int q10), (5, .int q9), (2, .int l2), (3, .int l3), (4, .int l4)]) hx hb dX9_door_83 hl (by decide) rfl (fun ls hl => ?_)
    refine lv_iload hx hb dX9_door_85 (lv_at hl 1 rfl) ?_
    refine lv_iload hx hb dX9_door_87 (lv_at hl 0 rfl) ?_
    refine lv_iload_n hx hb dX9_door_89 rfl (lv_at hl 2 rfl) ?_
    obtain ⟨q11, hq11, h⟩ := s_bind h
    refine u_calliS (r := q11) (As := [.int q9, .int q10, .int l2]) (rest := []) (wc := ([] : va_W)) hx hb hml hown hts hK hA hl hS (c_X9_toGuest l D cI cB cZ q9 q10 l2 _ _ hq11) (va_cwS 3 hts gX9_door_X9_toGuest rfl rfl rfl (by decide +kernel) ⟨Nat.le_of_ble_eq_true rfl, Nat.le_of_ble_eq_true rfl⟩) [] rfl rfl rfl rfl (Nat.le_of_ble_eq_true rfl) dX9_door_90 (fun H locs hS => ?_)
    refine lv_iload hx hb dX9_door_93 (lv_at hl 1 rfl) ?_
    refine lv_if_ne (tgt := 102) hx hb dX9_door_95 (by decide) (fun c12 => ?_) (fun c12 => ?_)
    · replace h := s_no c12 h
      refine lv_iconst (v := (0 : Int32)) hx hb dX9_door_102 (by decide) ?_
      exact w_X9_door_b103 C0 hend (f_X9_door_b63 all fu) ih refused l2 l3 l4 q9 q10 (0 : Int32) q11 _ _ _ h hS (lv_sub hl [2, 3, 4, 1, 0] rfl)
    replace h := s_yes c12 h
    refine lv_iconst (v := (1 : Int32)) hx hb dX9_door_98 (by decide) ?_
    refine lv_goto (tgt := 103) hx hb dX9_door_99 (by decide) ?_
    exact w_X9_door_b103 C0 hend (f_X9_door_b63 all fu) ih refused l2 l3 l4 q9 q10 (1 : Int32) q11 _ _ _ h hS (lv_sub hl [2, 3, 4, 1, 0] rfl)
def f_X9_door_b57  (all : (Nat → Int32)) (refused : (Nat → Int32)) (t0 : Int32) : Option (Int32 × (Nat → Int32)) := f_X9_door_b63  all s_fuel refused t0 (0 : Int32) (0 : Int32)
set_option maxHeartbeats 4000000 in
set_option maxRecDepth 100000 in
theorem w_X9_door_b57 {p : Program} {l : Launch} {e : Env} {s : State} {m : MethodId} {args : Array Value} {below : List Frame} {meth : Method} {c : Code} {A : Nat → Prop} {Q : State → Prop} {D : va_G} {cI cB cZ : ClassId} {a_this a_all a_kept a_isKept a_refused a_hand a_outs a_order0 a_bestOrder a_tells a_bytes a_anew a_values : Nat} {all : (Nat → Int32)} {above : Int64} {below_ : Int64} {bytesLong : Int32} {tokenAt : Int32} {tokenLong : Int32} {token : Int32} {value : Int32} (C0 : Cx p s m args c cX9_door 8 RX9 wsX9_door D (s_tys cI cB cZ) A) {rv : Int32 × (Nat → Int32)} (hend : ∀ (pc : Nat) (H : Heap) (locs : List Loc) (ls : Array Slot), decode cX9_door pc = .ok (.ireturn, 1) → sS D vwCl A s.heap (wd_X9_door cI cB cZ a_this a_all a_kept a_isKept a_refused a_hand a_outs a_order0 a_bestOrder a_tells a_bytes a_anew a_values all rv.2 above below_ bytesLong tokenAt tokenLong token value) H locs → W p l e rm_X9_door s m args below meth c H locs 0 0 Q (F0 m pc ls [.int rv.1])) : ∀ (refused : (Nat → Int32)) (t0 : Int32) (H : Heap) (locs : List Loc) (ls : Array Slot), f_X9_door_b57 all refused t0 = some rv → sS D vwCl A s.heap (wd_X9_door cI cB cZ a_this a_all a_kept a_isKept a_refused a_hand a_outs a_order0 a_bestOrder a_tells a_bytes a_anew a_values all refused above below_ bytesLong tokenAt tokenLong token value) H locs → lv_has ls 8 [] → W p l e rm_X9_door s m args below meth c H locs 0 0 Q (F0 m 57 ls [.int t0]) := by
  obtain ⟨hx, hb, hml, hown, hts, hK, hA⟩ := id C0
  have inX9 : ∀ w ∈ u_ws RX9 TX9 19, w ∈ wsX9_door := inX9_X9_door
  intro refused t0 H locs ls h hS hl
  unfold f_X9_door_b57 at h
  refine lv_istore_n (lv' := [(2, .int t0)]) hx hb dX9_door_57 rfl hl (by decide) rfl (fun ls hl => ?_)
  refine lv_iconst (v := (0 : Int32)) hx hb dX9_door_58 (by decide) ?_
  refine lv_istore_n (lv' := [(3, .int (0 : Int32)), (2, .int t0)]) hx hb dX9_door_59 rfl hl (by decide) rfl (fun ls hl => ?_)
  refine lv_iconst (v := (0 : Int32)) hx hb dX9_door_60 (by decide) ?_
  refine lv_istore (lv' := [(4, .int (0 : Int32)), (3, .int (0 : Int32)), (2, .int t0)]) hx hb dX9_door_61 hl (by decide) rfl (fun ls hl => ?_)
  exact w_X9_door_b63 C0 hend  s_fuel refused t0 (0 : Int32) (0 : Int32) _ _ _ h hS (lv_sub hl [2, 1, 0] rfl)
def f_X9_door  (all : (Nat → Int32)) (refused : (Nat → Int32)) (p1 : Int32) : Option (Int32 × (Nat → Int32)) := ((f_X9_isOne all p1).bind fun q13 => (if q13 = 0 then ((f_X9_bad refused (-2 : Int32)).bind fun q21 => some (q21.1, q21.2)) else ((f_X9_has (all (Int32.toNatClampNeg (19 : Int32))) p1).bind fun q15 => (if q15 = 0 then ((f_X9_likelyOf 250 all p1).bind fun q17 => ((f_X9_passesNow 250 all).bind fun q18 => (if q17 ≤ q18 then f_X9_door_b57  all refused (0 : Int32) else f_X9_door_b57  all refused (1 : Int32)))) else ((f_X9_no refused).bind fun q20 => some (q20.1, q20.2))))))
set_option maxHeartbeats 4000000 in
set_option maxRecDepth 100000 in
theorem c_X9_door (l : Launch) (D : va_G) (cI cB cZ : ClassId) (a_this : Nat) (a_all : Nat) (a_kept : Nat) (a_isKept : Nat) (a_refused : Nat) (a_hand : Nat) (a_outs : Nat) (a_order0 : Nat) (a_bestOrder : Nat) (a_tells : Nat) (a_bytes : Nat) (a_anew : Nat) (a_values : Nat) (all : (Nat → Int32)) (refused : (Nat → Int32)) (above : Int64) (below_ : Int64) (bytesLong : Int32) (tokenAt : Int32) (tokenLong : Int32) (token : Int32) (value : Int32) (p1 : Int32) (rv : Int32 × (Nat → Int32)) (sz : Nat) (hf : f_X9_door all refused p1 = some rv) : Met l yX9_door wsX9_door rm_X9_door (sPc D vwCl (s_tys cI cB cZ) [.ref a_this, .int p1] (wd_X9_door cI cB cZ a_this a_all a_kept a_isKept a_refused a_hand a_outs a_order0 a_bestOrder a_tells a_bytes a_anew a_values all refused above below_ bytesLong tokenAt tokenLong token value) sz) (sQi D vwCl (wd_X9_door cI cB cZ a_this a_all a_kept a_isKept a_refused a_hand a_outs a_order0 a_bestOrder a_tells a_bytes a_anew a_values all refused above below_ bytesLong tokenAt tokenLong token value) (wd_X9_door cI cB cZ a_this a_all a_kept a_isKept a_refused a_hand a_outs a_order0 a_bestOrder a_tells a_bytes a_anew a_values all rv.2 above below_ bytesLong tokenAt tokenLong token value) sz rv.1) 0 0 (va_A (wd_X9_door cI cB cZ a_this a_all a_kept a_isKept a_refused a_hand a_outs a_order0 a_bestOrder a_tells a_bytes a_anew a_values all refused above below_ bytesLong tokenAt tokenLong token value) sz) := by
  refine s_enter_n (cc := cX9_door) (nL := 8) (r := rv.1) (by decide) rfl (Nat.le_of_ble_eq_true rfl) ?_
  intro p e s m args below meth c A Q C0 hend ls hl hS
  have h := hf
  clear hf
  replace hl : lv_has ls 8 [(0, .ref a_this), (1, .int p1)] := hl
  unfold f_X9_door at h
  obtain ⟨hx, hb, hml, hown, hts, hK, hA⟩ := id C0
  have inX9 : ∀ w ∈ u_ws RX9 TX9 19, w ∈ wsX9_door := inX9_X9_door
  refine lv_aload_n hx hb dX9_door_0 rfl (lv_at hl 0 rfl) ?_
  refine lv_iload_n hx hb dX9_door_1 rfl (lv_at hl 1 rfl) ?_
  obtain ⟨q13, hq13, h⟩ := s_bind h
  refine u_calliV (r := q13) (As := [.int p1]) (rest := []) (wc := (wd_X9_isOne cI cB cZ a_this a_all a_kept a_isKept a_refused a_hand a_outs a_order0 a_bestOrder a_tells a_bytes a_anew a_values all above below_ bytesLong tokenAt tokenLong token value)) hx hb hml hown hts hK hA hl hS (c_X9_isOne l D cI cB cZ a_this a_all a_kept a_isKept a_refused a_hand a_outs a_order0 a_bestOrder a_tells a_bytes a_anew a_values all above below_ bytesLong tokenAt tokenLong token value p1 _ _ hq13) (cwV 1 hts gX9_door_X9_isOne rfl rfl rfl (by decide +kernel) ⟨Nat.le_of_ble_eq_true rfl, Nat.le_of_ble_eq_true rfl⟩) 0 rfl rfl [0, 1] rfl rfl rfl rfl (Nat.le_of_ble_eq_true rfl) dX9_door_2 (fun H locs hS => ?_)
  refine lv_if_ne (tgt := 15) hx hb dX9_door_5 (by decide) (fun c14 => ?_) (fun c14 => ?_)
  · replace h := s_no c14 h
    refine lv_aload_n hx hb dX9_door_15 rfl (lv_at hl 0 rfl) ?_
    refine s_get (C := RX9) (T := TX9) (N := 19) hx hb hts inX9 hown hK hS 0 rfl rfl 0 (by decide) (hts (.fieldLink RX9 7 "InnTurnedModel" "all" "[I") (List.mem_of_getElem? (i := 1) rfl)) rfl rfl dX9_door_16 ?_
    refine lv_bipush (v := (19 : Int32)) hx hb dX9_door_19 (by decide) ?_
    refine s_iald hx hb hK hS 1 rfl rfl (by decide) dX9_door_21 ?_
    refine lv_iload_n hx hb dX9_door_22 rfl (lv_at hl 1 rfl) ?_
    obtain ⟨q15, hq15, h⟩ := s_bind h
    refine u_calliS (r := q15) (As := [.int (all (Int32.toNatClampNeg (19 : Int32))), .int p1]) (rest := []) (wc := ([] : va_W)) hx hb hml hown hts hK hA hl hS (c_X9_has l D cI cB cZ (all (Int32.toNatClampNeg (19 : Int32))) p1 _ _ hq15) (va_cwS 2 hts gX9_door_X9_has rfl rfl rfl (by decide +kernel) ⟨Nat.le_of_ble_eq_true rfl, Nat.le_of_ble_eq_true rfl⟩) [] rfl rfl rfl rfl (Nat.le_of_ble_eq_true rfl) dX9_door_23 (fun H locs hS => ?_)
    refine lv_if_eq (tgt := 34) hx hb dX9_door_26 (by decide) (fun c16 => ?_) (fun c16 => ?_)
    · replace h := s_yes c16 h
      refine lv_aload_n hx hb dX9_door_34 rfl (lv_at hl 0 rfl) ?_
      refine s_get (C := RX9) (T := TX9) (N := 19) hx hb hts inX9 hown hK hS 0 rfl rfl 0 (by decide) (hts (.fieldLink RX9 7 "InnTurnedModel" "all" "[I") (List.mem_of_getElem? (i := 1) rfl)) rfl rfl dX9_door_35 ?_
      refine lv_iload_n hx hb dX9_door_38 rfl (lv_at hl 1 rfl) ?_
      obtain ⟨q17, hq17, h⟩ := s_bind h
      refine u_calliS (r := q17) (As := [.ref a_all, .int p1]) (rest := []) (wc := (wd_X9_likelyOf cI cB cZ a_all 250 all)) hx hb hml hown hts hK hA hl hS (c_X9_likelyOf l D cI cB cZ a_all 250 all p1 _ _ hq17) (va_cwS 2 hts gX9_door_X9_likelyOf rfl rfl rfl (by decide +kernel) ⟨Nat.le_of_ble_eq_true rfl, Nat.le_of_ble_eq_true rfl⟩) [1] rfl rfl rfl rfl (Nat.le_of_ble_eq_true rfl) dX9_door_39 (fun H locs hS => ?_)
      refine lv_aload_n hx hb dX9_door_42 rfl (lv_at hl 0 rfl) ?_
      refine s_get (C := RX9) (T := TX9) (N := 19) hx hb hts inX9 hown hK hS 0 rfl rfl 0 (by decide) (hts (.fieldLink RX9 7 "InnTurnedModel" "all" "[I") (List.mem_of_getElem? (i := 1) rfl)) rfl rfl dX9_door_43 ?_
      obtain ⟨q18, hq18, h⟩ := s_bind h
      refine u_calliS (r := q18) (As := [.ref a_all]) (rest := [.int q17]) (wc := (wd_X9_passesNow cI cB cZ a_all 250 all)) hx hb hml hown hts hK hA hl hS (c_X9_passesNow l D cI cB cZ a_all 250 all _ _ hq18) (va_cwS 1 hts gX9_door_X9_passesNow rfl rfl rfl (by decide +kernel) ⟨Nat.le_of_ble_eq_true rfl, Nat.le_of_ble_eq_true rfl⟩) [1] rfl rfl rfl rfl (Nat.le_of_ble_eq_true rfl) dX9_door_46 (fun H locs hS => ?_)
      refine lv_icmp_le (tgt := 56) hx hb dX9_door_49 (by decide) (fun c19 => ?_) (fun c19 => ?_)
      · replace h := s_yes c19 h
        refine lv_iconst (v := (0 : Int32)) hx hb dX9_door_56 (by decide) ?_
        exact w_X9_door_b57 C0 hend  refused (0 : Int32) _ _ _ h hS (lv_sub hl [] rfl)
      replace h := s_no c19 h
      refine lv_iconst (v := (1 : Int32)) hx hb dX9_door_52 (by decide) ?_
      refine lv_goto (tgt := 57) hx hb dX9_door_53 (by decide) ?_
      exact w_X9_door_b57 C0 hend  refused (1 : Int32) _ _ _ h hS (lv_sub hl [] rfl)
    replace h := s_no c16 h
    refine lv_aload_n hx hb dX9_door_29 rfl (lv_at hl 0 rfl) ?_
    obtain ⟨q20, hq20, h⟩ := s_bind h
    refine r_calliV (r := q20.1) (As := []) (rest := []) (wc := (wd_X9_no cI cB cZ a_this a_all a_kept a_isKept a_refused a_hand a_outs a_order0 a_bestOrder a_tells a_bytes a_anew a_values refused above below_ bytesLong tokenAt tokenLong token value)) (w1 := (wd_X9_no cI cB cZ a_this a_all a_kept a_isKept a_refused a_hand a_outs a_order0 a_bestOrder a_tells a_bytes a_anew a_values q20.2 above below_ bytesLong tokenAt tokenLong token value)) (ws' := (wd_X9_door cI cB cZ a_this a_all a_kept a_isKept a_refused a_hand a_outs a_order0 a_bestOrder a_tells a_bytes a_anew a_values all q20.2 above below_ bytesLong tokenAt tokenLong token value)) hx hb hml hown hts hK hA hl hS (c_X9_no l D cI cB cZ a_this a_all a_kept a_isKept a_refused a_hand a_outs a_order0 a_bestOrder a_tells a_bytes a_anew a_values refused above below_ bytesLong tokenAt tokenLong token value _ _ hq20) (cwV 0 hts gX9_door_X9_no rfl rfl rfl (by decide +kernel) ⟨Nat.le_of_ble_eq_true rfl, Nat.le_of_ble_eq_true rfl⟩) 0 rfl rfl [0, 2] rfl rfl rfl [.inr 0, .inl 1, .inr 1] rfl rfl rfl rfl (Nat.le_of_ble_eq_true rfl) dX9_door_30 (fun H locs hS => ?_)
    obtain rfl := Option.some.inj h
    exact hend _ _ _ _ dX9_door_33 hS
  replace h := s_yes c14 h
  refine lv_aload_n hx hb dX9_door_8 rfl (lv_at hl 0 rfl) ?_
  refine lv_bipush (v := (-2 : Int32)) hx hb dX9_door_9 (by decide) ?_
  obtain ⟨q21, hq21, h⟩ := s_bind h
  refine r_calliV (r := q21.1) (As := [.int (-2 : Int32)]) (rest := []) (wc := (wd_X9_bad cI cB cZ a_this a_all a_kept a_isKept a_refused a_hand a_outs a_order0 a_bestOrder a_tells a_bytes a_anew a_values refused above below_ bytesLong tokenAt tokenLong token value)) (w1 := (wd_X9_bad cI cB cZ a_this a_all a_kept a_isKept a_refused a_hand a_outs a_order0 a_bestOrder a_tells a_bytes a_anew a_values q21.2 above below_ bytesLong tokenAt tokenLong token value)) (ws' := (wd_X9_door cI cB cZ a_this a_all a_kept a_isKept a_refused a_hand a_outs a_order0 a_bestOrder a_tells a_bytes a_anew a_values all q21.2 above below_ bytesLong tokenAt tokenLong token value)) hx hb hml hown hts hK hA hl hS (c_X9_bad l D cI cB cZ a_this a_all a_kept a_isKept a_refused a_hand a_outs a_order0 a_bestOrder a_tells a_bytes a_anew a_values refused above below_ bytesLong tokenAt tokenLong token value (-2 : Int32) _ _ hq21) (cwV 1 hts gX9_door_X9_bad rfl rfl rfl (by decide +kernel) ⟨Nat.le_of_ble_eq_true rfl, Nat.le_of_ble_eq_true rfl⟩) 0 rfl rfl [0, 2] rfl rfl rfl [.inr 0, .inl 1, .inr 1] rfl rfl rfl rfl (Nat.le_of_ble_eq_true rfl) dX9_door_11 (fun H locs hS => ?_)
  obtain rfl := Option.some.inj h
  exact hend _ _ _ _ dX9_door_14 hS

-- InnTurnedModel.fraction(JJ)V
def wd_X9_fraction (cI cB cZ : ClassId) (a_this : Nat) (a_all : Nat) (a_kept : Nat) (a_isKept : Nat) (a_refused : Nat) (a_hand : Nat) (a_outs : Nat) (a_order0 : Nat) (a_bestOrder : Nat) (a_tells : Nat) (a_bytes : Nat) (a_anew : Nat) (a_values : Nat)  (above : Int64) (below_ : Int64) (bytesLong : Int32) (tokenAt : Int32) (tokenLong : Int32) (token : Int32) (value : Int32) : va_W := [(a_this, .inr (6, [.ref a_all, .ref a_kept, .ref a_isKept, .ref a_refused, .long above, .long below_, .ref a_hand, .ref a_outs, .ref a_order0, .ref a_bestOrder, .ref a_tells, .ref a_bytes, .int bytesLong, .int tokenAt, .int tokenLong, .int token, .int value, .ref a_anew, .ref a_values]))]
abbrev rm_X9_fraction : Room := { frames := 0, cells := 0, slots := 0, locals := 0 }
set_option maxRecDepth 20000 in
theorem inX9_X9_fraction : ∀ w ∈ u_ws RX9 TX9 19, w ∈ wsX9_fraction := by decide +kernel
def f_X9_fraction_b6   : Nat → Int64 → Int64 → Int64 → Int64 → Int64 → Int64 → Option (Int64 × Int64)
  | 0, _, _, _, _, _, _ => none
  | fu + 1, above, below_, l1, l3, l5, l7 => (if (lg_cmp l7 (0 : Int64)) = 0 then (if ¬ l5 = 0 then (if ¬ l5 = 0 then some ((l1 / l5), (l3 / l5)) else none) else none) else (if ¬ l7 = 0 then (f_X9_fraction_b6  fu) above below_ l1 l3 l7 (l5 - l5 / l7 * l7) else none))
set_option maxHeartbeats 4000000 in
set_option maxRecDepth 100000 in
theorem w_X9_fraction_b6 {p : Program} {l : Launch} {e : Env} {s : State} {m : MethodId} {args : Array Value} {below : List Frame} {meth : Method} {c : Code} {A : Nat → Prop} {Q : State → Prop} {D : va_G} {cI cB cZ : ClassId} {a_this a_all a_kept a_isKept a_refused a_hand a_outs a_order0 a_bestOrder a_tells a_bytes a_anew a_values : Nat} {bytesLong : Int32} {tokenAt : Int32} {tokenLong : Int32} {token : Int32} {value : Int32} (C0 : Cx p s m args c cX9_fraction 11 RX9 wsX9_fraction D (s_tys cI cB cZ) A) {rv : Int64 × Int64} (hend : ∀ (pc : Nat) (H : Heap) (locs : List Loc) (ls : Array Slot), decode cX9_fraction pc = .ok (.return_, 1) → sS D vwCl A s.heap (wd_X9_fraction cI cB cZ a_this a_all a_kept a_isKept a_refused a_hand a_outs a_order0 a_bestOrder a_tells a_bytes a_anew a_values rv.1 rv.2 bytesLong tokenAt tokenLong token value) H locs → W p l e rm_X9_fraction s m args below meth c H locs 0 0 Q (F0 m pc ls [])) : ∀ (fu : Nat) (above : Int64) (below_ : Int64) (l1 : Int64) (l3 : Int64) (l5 : Int64) (l7 : Int64) (H : Heap) (locs : List Loc) (ls : Array Slot), f_X9_fraction_b6  fu above below_ l1 l3 l5 l7 = some rv → sS D vwCl A s.heap (wd_X9_fraction cI cB cZ a_this a_all a_kept a_isKept a_refused a_hand a_outs a_order0 a_bestOrder a_tells a_bytes a_anew a_values above below_ bytesLong tokenAt tokenLong token value) H locs → lv_has ls 11 [(0, .ref a_this), (1, .long l1), (3, .long l3), (5, .long l5), (7, .long l7)] → W p l e rm_X9_fraction s m args below meth c H locs 0 0 Q (F0 m 6 ls []) := by
  obtain ⟨hx, hb, hml, hown, hts, hK, hA⟩ := id C0
  have inX9 : ∀ w ∈ u_ws RX9 TX9 19, w ∈ wsX9_fraction := inX9_X9_fraction
  intro fu
  induction fu with
  | zero => intro above below_ l1 l3 l5 l7 H locs ls h; cases h
  | succ fu ih =>
    intro above below_ l1 l3 l5 l7 H locs ls h hS hl
    rw [f_X9_fraction_b6] at h
    refine lv_lload hx hb dX9_fraction_6 (lv_at hl 4 rfl) ?_
    refine lv_lconst (v := (0 : Int64)) hx hb dX9_fraction_8 (by decide) ?_
    refine W.lcmp hx hb dX9_fraction_9 ?_
    refine lv_if_eq (tgt := 31) hx hb dX9_fraction_10 (by decide) (fun c1 => ?_) (fun c1 => ?_)
    · replace h := s_yes c1 h
      refine lv_aload_n hx hb dX9_fraction_31 rfl (lv_at hl 0 rfl) ?_
      refine lv_lload_n hx hb dX9_fraction_32 rfl (lv_at hl 1 rfl) ?_
      refine lv_lload hx hb dX9_fraction_33 (lv_at hl 3 rfl) ?_
      obtain ⟨g2, h⟩ := s_guard h
      refine lv_ldiv hx hb dX9_fraction_35 g2 ?_
      refine s_put (ws' := (wd_X9_fraction cI cB cZ a_this a_all a_kept a_isKept a_refused a_hand a_outs a_order0 a_bestOrder a_tells a_bytes a_anew a_values (l1 / l5) below_ bytesLong tokenAt tokenLong token value)) (C := RX9) (T := TX9) (N := 19) hx hb hts inX9 tyX9 tyX9_ok nmX9 hown hK hS 0 rfl rfl 4 (by decide) (hts (.fieldLink RX9 193 "InnTurnedModel" "above" "J") (List.mem_of_getElem? (i := 1) rfl)) rfl rfl rfl rfl (Nat.le_of_ble_eq_true rfl) rfl dX9_fraction_36 (fun H locs hS => ?_)
      refine lv_aload_n hx hb dX9_fraction_39 rfl (lv_at hl 0 rfl) ?_
      refine lv_lload_n hx hb dX9_fraction_40 rfl (lv_at hl 2 rfl) ?_
      refine lv_lload hx hb dX9_fraction_41 (lv_at hl 3 rfl) ?_
      obtain ⟨g3, h⟩ := s_guard h
      refine lv_ldiv hx hb dX9_fraction_43 g3 ?_
      refine s_put (ws' := (wd_X9_fraction cI cB cZ a_this a_all a_kept a_isKept a_refused a_hand a_outs a_order0 a_bestOrder a_tells a_bytes a_anew a_values (l1 / l5) (l3 / l5) bytesLong tokenAt tokenLong token value)) (C := RX9) (T := TX9) (N := 19) hx hb hts inX9 tyX9 tyX9_ok nmX9 hown hK hS 0 rfl rfl 5 (by decide) (hts (.fieldLink RX9 23 "InnTurnedModel" "below" "J") (List.mem_of_getElem? (i := 2) rfl)) rfl rfl rfl rfl (Nat.le_of_ble_eq_true rfl) rfl dX9_fraction_44 (fun H locs hS => ?_)
      obtain rfl := Option.some.inj h
      exact hend _ _ _ _ dX9_fraction_47 hS
    replace h := s_no c1 h
    refine lv_lload hx hb dX9_fraction_13 (lv_at hl 3 rfl) ?_
    refine lv_lload hx hb dX9_fraction_15 (lv_at hl 4 rfl) ?_
    obtain ⟨g4, h⟩ := s_guard h
    refine lv_lrem hx hb dX9_fraction_17 g4 ?_
    refine lv_lstore (lv' := [(9, .long (l5 - l5 / l7 * l7)), (0, .ref a_this), (1, .long l1), (3, .long l3), (5, .long l5), (7, .long l7)]) hx hb dX9_fraction_18 hl (by decide) rfl (fun ls hl => ?_)
    refine lv_lload hx hb dX9_fraction_20 (lv_at hl 5 rfl) ?_
    refine lv_lstore (lv' := [(5, .long l7), (9, .long (l5 - l5 / l7 * l7)), (0, .ref a_this), (1, .long l1), (3, .long l3), (7, .long l7)]) hx hb dX9_fraction_22 hl (by decide) rfl (fun ls hl => ?_)
    refine lv_lload hx hb dX9_fraction_24 (lv_at hl 1 rfl) ?_
    refine lv_lstore (lv' := [(7, .long (l5 - l5 / l7 * l7)), (5, .long l7), (9, .long (l5 - l5 / l7 * l7)), (0, .ref a_this), (1, .long l1), (3, .long l3)]) hx hb dX9_fraction_26 hl (by decide) rfl (fun ls hl => ?_)
    refine lv_goto (tgt := 6) hx hb dX9_fraction_28 (by decide) ?_
    exact ih above below_ l1 l3 l7 (l5 - l5 / l7 * l7) _ _ _ h hS (lv_sub hl [3, 4, 5, 1, 0] rfl)
def f_X9_fraction   (above : Int64) (below_ : Int64) (p1 : Int64) (p2 : Int64) : Option (Int64 × Int64) := f_X9_fraction_b6   s_fuel above below_ p1 p2 p1 p2
set_option maxHeartbeats 4000000 in
set_option maxRecDepth 100000 in
theorem c_X9_fraction (l : Launch) (D : va_G) (cI cB cZ : ClassId) (a_this : Nat) (a_all : Nat) (a_kept : Nat) (a_isKept : Nat) (a_refused : Nat) (a_hand : Nat) (a_outs : Nat) (a_order0 : Nat) (a_bestOrder : Nat) (a_tells : Nat) (a_bytes : Nat) (a_anew : Nat) (a_values : Nat) (above : Int64) (below_ : Int64) (bytesLong : Int32) (tokenAt : Int32) (tokenLong : Int32) (token : Int32) (value : Int32) (p1 : Int64) (p2 : Int64) (rv : Int64 × Int64) (sz : Nat) (hf : f_X9_fraction above below_ p1 p2 = some rv) : Met l yX9_fraction wsX9_fraction rm_X9_fraction (sPc D vwCl (s_tys cI cB cZ) [.ref a_this, .long p1, .long p2] (wd_X9_fraction cI cB cZ a_this a_all a_kept a_isKept a_refused a_hand a_outs a_order0 a_bestOrder a_tells a_bytes a_anew a_values above below_ bytesLong tokenAt tokenLong token value) sz) (sQv D vwCl (wd_X9_fraction cI cB cZ a_this a_all a_kept a_isKept a_refused a_hand a_outs a_order0 a_bestOrder a_tells a_bytes a_anew a_values above below_ bytesLong tokenAt tokenLong token value) (wd_X9_fraction cI cB cZ a_this a_all a_kept a_isKept a_refused a_hand a_outs a_order0 a_bestOrder a_tells a_bytes a_anew a_values rv.1 rv.2 bytesLong tokenAt tokenLong token value) sz) 0 0 (va_A (wd_X9_fraction cI cB cZ a_this a_all a_kept a_isKept a_refused a_hand a_outs a_order0 a_bestOrder a_tells a_bytes a_anew a_values above below_ bytesLong tokenAt tokenLong token value) sz) := by
  refine s_enter_v (cc := cX9_fraction) (nL := 11) (by decide) rfl (Nat.le_of_ble_eq_true rfl) ?_
  intro p e s m args below meth c A Q C0 hend ls hl hS
  have h := hf
  clear hf
  replace hl : lv_has ls 11 [(0, .ref a_this), (1, .long p1), (3, .long p2)] := hl
  unfold f_X9_fraction at h
  obtain ⟨hx, hb, hml, hown, hts, hK, hA⟩ := id C0
  have inX9 : ∀ w ∈ u_ws RX9 TX9 19, w ∈ wsX9_fraction := inX9_X9_fraction
  refine lv_lload_n hx hb dX9_fraction_0 rfl (lv_at hl 1 rfl) ?_
  refine lv_lstore (lv' := [(5, .long p1), (0, .ref a_this), (1, .long p1), (3, .long p2)]) hx hb dX9_fraction_1 hl (by decide) rfl (fun ls hl => ?_)
  refine lv_lload_n hx hb dX9_fraction_3 rfl (lv_at hl 3 rfl) ?_
  refine lv_lstore (lv' := [(7, .long p2), (5, .long p1), (0, .ref a_this), (1, .long p1), (3, .long p2)]) hx hb dX9_fraction_4 hl (by decide) rfl (fun ls hl => ?_)
  exact w_X9_fraction_b6 C0 hend  s_fuel above below_ p1 p2 p1 p2 _ _ _ h hS (lv_sub hl [2, 3, 4, 1, 0] rfl)

-- InnTurnedModel.rain(II)I
def wd_X9_rain (cI cB cZ : ClassId) (a_this : Nat) (a_all : Nat) (a_kept : Nat) (a_isKept : Nat) (a_refused : Nat) (a_hand : Nat) (a_outs : Nat) (a_order0 : Nat) (a_bestOrder : Nat) (a_tells : Nat) (a_bytes : Nat) (a_anew : Nat) (a_values : Nat)  (all : (Nat → Int32)) (refused : (Nat → Int32)) (above : Int64) (below_ : Int64) (hand : (Nat → Int32)) (bytesLong : Int32) (tokenAt : Int32) (tokenLong : Int32) (token : Int32) (value : Int32) : va_W := [(a_this, .inr (6, [.ref a_all, .ref a_kept, .ref a_isKept, .ref a_refused, .long above, .long below_, .ref a_hand, .ref a_outs, .ref a_order0, .ref a_bestOrder, .ref a_tells, .ref a_bytes, .int bytesLong, .int tokenAt, .int tokenLong, .int token, .int value, .ref a_anew, .ref a_values])), (a_all, .inl (cI, 250, .inl all)), (a_refused, .inl (cI, 3, .inl refused)), (a_hand, .inl (cI, 38, .inl hand))]
abbrev rm_X9_rain : Room := { frames := 3, cells := 0, slots := 0, locals := 67 }
set_option maxRecDepth 20000 in
theorem inX9_X9_rain : ∀ w ∈ u_ws RX9 TX9 19, w ∈ wsX9_rain := by decide +kernel
def f_X9_rain_b20  (all : (Nat → Int32)) (refused : (Nat → Int32)) (above : Int64) (below_ : Int64) (hand : (Nat → Int32)) : Option (Int32 × (Nat → Int32) × Int64 × Int64 × (Nat → Int32)) := ((f_X9_bad refused (-2 : Int32)).bind fun q1 => some (q1.1, q1.2, above, below_, hand))
set_option maxHeartbeats 4000000 in
set_option maxRecDepth 100000 in
theorem w_X9_rain_b20 {p : Program} {l : Launch} {e : Env} {s : State} {m : MethodId} {args : Array Value} {below : List Frame} {meth : Method} {c : Code} {A : Nat → Prop} {Q : State → Prop} {D : va_G} {cI cB cZ : ClassId} {a_this a_all a_kept a_isKept a_refused a_hand a_outs a_order0 a_bestOrder a_tells a_bytes a_anew a_values : Nat} {all : (Nat → Int32)} {bytesLong : Int32} {tokenAt : Int32} {tokenLong : Int32} {token : Int32} {value : Int32} (C0 : Cx p s m args c cX9_rain 5 RX9 wsX9_rain D (s_tys cI cB cZ) A) {rv : Int32 × (Nat → Int32) × Int64 × Int64 × (Nat → Int32)} (hend : ∀ (pc : Nat) (H : Heap) (locs : List Loc) (ls : Array Slot), decode cX9_rain pc = .ok (.ireturn, 1) → sS D vwCl A s.heap (wd_X9_rain cI cB cZ a_this a_all a_kept a_isKept a_refused a_hand a_outs a_order0 a_bestOrder a_tells a_bytes a_anew a_values all rv.2.1 rv.2.2.1 rv.2.2.2.1 rv.2.2.2.2 bytesLong tokenAt tokenLong token value) H locs → W p l e rm_X9_rain s m args below meth c H locs 0 0 Q (F0 m pc ls [.int rv.1])) : ∀ (refused : (Nat → Int32)) (above : Int64) (below_ : Int64) (hand : (Nat → Int32)) (H : Heap) (locs : List Loc) (ls : Array Slot), f_X9_rain_b20 all refused above below_ hand = some rv → sS D vwCl A s.heap (wd_X9_rain cI cB cZ a_this a_all a_kept a_isKept a_refused a_hand a_outs a_order0 a_bestOrder a_tells a_bytes a_anew a_values all refused above below_ hand bytesLong tokenAt tokenLong token value) H locs → lv_has ls 5 [(0, .ref a_this)] → W p l e rm_X9_rain s m args below meth c H locs 0 0 Q (F0 m 20 ls []) := by
  obtain ⟨hx, hb, hml, hown, hts, hK, hA⟩ := id C0
  have inX9 : ∀ w ∈ u_ws RX9 TX9 19, w ∈ wsX9_rain := inX9_X9_rain
  intro refused above below_ hand H locs ls h hS hl
  unfold f_X9_rain_b20 at h
  refine lv_aload_n hx hb dX9_rain_20 rfl (lv_at hl 0 rfl) ?_
  refine lv_bipush (v := (-2 : Int32)) hx hb dX9_rain_21 (by decide) ?_
  obtain ⟨q1, hq1, h⟩ := s_bind h
  refine r_calliV (r := q1.1) (As := [.int (-2 : Int32)]) (rest := []) (wc := (wd_X9_bad cI cB cZ a_this a_all a_kept a_isKept a_refused a_hand a_outs a_order0 a_bestOrder a_tells a_bytes a_anew a_values refused above below_ bytesLong tokenAt tokenLong token value)) (w1 := (wd_X9_bad cI cB cZ a_this a_all a_kept a_isKept a_refused a_hand a_outs a_order0 a_bestOrder a_tells a_bytes a_anew a_values q1.2 above below_ bytesLong tokenAt tokenLong token value)) (ws' := (wd_X9_rain cI cB cZ a_this a_all a_kept a_isKept a_refused a_hand a_outs a_order0 a_bestOrder a_tells a_bytes a_anew a_values all q1.2 above below_ hand bytesLong tokenAt tokenLong token value)) hx hb hml hown hts hK hA hl hS (c_X9_bad l D cI cB cZ a_this a_all a_kept a_isKept a_refused a_hand a_outs a_order0 a_bestOrder a_tells a_bytes a_anew a_values refused above below_ bytesLong tokenAt tokenLong token value (-2 : Int32) _ _ hq1) (cwV 1 hts gX9_rain_X9_bad rfl rfl rfl (by decide +kernel) ⟨Nat.le_of_ble_eq_true rfl, Nat.le_of_ble_eq_true rfl⟩) 0 rfl rfl [0, 2] rfl rfl rfl [.inr 0, .inl 1, .inr 1, .inl 3] rfl rfl rfl rfl (Nat.le_of_ble_eq_true rfl) dX9_rain_23 (fun H locs hS => ?_)
  obtain rfl := Option.some.inj h
  exact hend _ _ _ _ dX9_rain_26 hS
def f_X9_rain_b108  (all : (Nat → Int32)) (refused : (Nat → Int32)) (above : Int64) (below_ : Int64) (hand : (Nat → Int32)) (t0 : Int64) (t1 : Int64) : Option (Int32 × (Nat → Int32) × Int64 × Int64 × (Nat → Int32)) := ((f_X9_fraction above below_ (t1 + t0) (10 : Int64)).bind fun q2 => some ((1 : Int32), refused, q2.1, q2.2, hand))
set_option maxHeartbeats 4000000 in
set_option maxRecDepth 100000 in
theorem w_X9_rain_b108 {p : Program} {l : Launch} {e : Env} {s : State} {m : MethodId} {args : Array Value} {below : List Frame} {meth : Method} {c : Code} {A : Nat → Prop} {Q : State → Prop} {D : va_G} {cI cB cZ : ClassId} {a_this a_all a_kept a_isKept a_refused a_hand a_outs a_order0 a_bestOrder a_tells a_bytes a_anew a_values : Nat} {all : (Nat → Int32)} {bytesLong : Int32} {tokenAt : Int32} {tokenLong : Int32} {token : Int32} {value : Int32} (C0 : Cx p s m args c cX9_rain 5 RX9 wsX9_rain D (s_tys cI cB cZ) A) {rv : Int32 × (Nat → Int32) × Int64 × Int64 × (Nat → Int32)} (hend : ∀ (pc : Nat) (H : Heap) (locs : List Loc) (ls : Array Slot), decode cX9_rain pc = .ok (.ireturn, 1) → sS D vwCl A s.heap (wd_X9_rain cI cB cZ a_this a_all a_kept a_isKept a_refused a_hand a_outs a_order0 a_bestOrder a_tells a_bytes a_anew a_values all rv.2.1 rv.2.2.1 rv.2.2.2.1 rv.2.2.2.2 bytesLong tokenAt tokenLong token value) H locs → W p l e rm_X9_rain s m args below meth c H locs 0 0 Q (F0 m pc ls [.int rv.1])) : ∀ (refused : (Nat → Int32)) (above : Int64) (below_ : Int64) (hand : (Nat → Int32)) (t0 : Int64) (t1 : Int64) (H : Heap) (locs : List Loc) (ls : Array Slot), f_X9_rain_b108 all refused above below_ hand t0 t1 = some rv → sS D vwCl A s.heap (wd_X9_rain cI cB cZ a_this a_all a_kept a_isKept a_refused a_hand a_outs a_order0 a_bestOrder a_tells a_bytes a_anew a_values all refused above below_ hand bytesLong tokenAt tokenLong token value) H locs → lv_has ls 5 [(0, .ref a_this)] → W p l e rm_X9_rain s m args below meth c H locs 0 0 Q (F0 m 108 ls [.long t0, .long t1]) := by
  obtain ⟨hx, hb, hml, hown, hts, hK, hA⟩ := id C0
  have inX9 : ∀ w ∈ u_ws RX9 TX9 19, w ∈ wsX9_rain := inX9_X9_rain
  intro refused above below_ hand t0 t1 H locs ls h hS hl
  unfold f_X9_rain_b108 at h
  refine lv_ladd hx hb dX9_rain_108 ?_
  refine lv_lstore_n (lv' := [(3, .long (t1 + t0)), (0, .ref a_this)]) hx hb dX9_rain_109 rfl hl (by decide) rfl (fun ls hl => ?_)
  refine lv_aload_n hx hb dX9_rain_110 rfl (lv_at hl 1 rfl) ?_
  refine lv_lload_n hx hb dX9_rain_111 rfl (lv_at hl 0 rfl) ?_
  refine lv_ldc2 (v := (10 : Int64)) hx hb hown (hts (.constantLong RX9 196 (10)) (List.mem_of_getElem? (i := 1) rfl)) dX9_rain_112 ?_
  obtain ⟨q2, hq2, h⟩ := s_bind h
  refine r_callvV (As := [.long (t1 + t0), .long (10 : Int64)]) (rest := []) (wc := (wd_X9_fraction cI cB cZ a_this a_all a_kept a_isKept a_refused a_hand a_outs a_order0 a_bestOrder a_tells a_bytes a_anew a_values above below_ bytesLong tokenAt tokenLong token value)) (w1 := (wd_X9_fraction cI cB cZ a_this a_all a_kept a_isKept a_refused a_hand a_outs a_order0 a_bestOrder a_tells a_bytes a_anew a_values q2.1 q2.2 bytesLong tokenAt tokenLong token value)) (ws' := (wd_X9_rain cI cB cZ a_this a_all a_kept a_isKept a_refused a_hand a_outs a_order0 a_bestOrder a_tells a_bytes a_anew a_values all refused q2.1 q2.2 hand bytesLong tokenAt tokenLong token value)) hx hb hml hown hts hK hA hl hS (c_X9_fraction l D cI cB cZ a_this a_all a_kept a_isKept a_refused a_hand a_outs a_order0 a_bestOrder a_tells a_bytes a_anew a_values above below_ bytesLong tokenAt tokenLong token value (t1 + t0) (10 : Int64) _ _ hq2) (cwV 2 hts gX9_rain_X9_fraction rfl rfl rfl (by decide +kernel) ⟨Nat.le_of_ble_eq_true rfl, Nat.le_of_ble_eq_true rfl⟩) 0 rfl rfl [0] rfl rfl rfl [.inr 0, .inl 1, .inl 2, .inl 3] rfl rfl rfl rfl (Nat.le_of_ble_eq_true rfl) dX9_rain_115 (fun H locs hS => ?_)
  refine lv_iconst (v := (1 : Int32)) hx hb dX9_rain_118 (by decide) ?_
  obtain rfl := Option.some.inj h
  exact hend _ _ _ _ dX9_rain_119 hS
def f_X9_rain_b89  (all : (Nat → Int32)) (refused : (Nat → Int32)) (above : Int64) (below_ : Int64) (hand : (Nat → Int32)) (l1 : Int32) (l2 : Int32) (t0 : Int64) : Option (Int32 × (Nat → Int32) × Int64 × Int64 × (Nat → Int32)) := ((f_X9_letsIn 38 hand l1).bind fun q3 => (if q3 = 0 then f_X9_rain_b108  all refused above below_ hand (0 : Int64) t0 else f_X9_rain_b108  all refused above below_ hand (Int32.toInt64 l2) t0))
set_option maxHeartbeats 4000000 in
set_option maxRecDepth 100000 in
theorem w_X9_rain_b89 {p : Program} {l : Launch} {e : Env} {s : State} {m : MethodId} {args : Array Value} {below : List Frame} {meth : Method} {c : Code} {A : Nat → Prop} {Q : State → Prop} {D : va_G} {cI cB cZ : ClassId} {a_this a_all a_kept a_isKept a_refused a_hand a_outs a_order0 a_bestOrder a_tells a_bytes a_anew a_values : Nat} {all : (Nat → Int32)} {bytesLong : Int32} {tokenAt : Int32} {tokenLong : Int32} {token : Int32} {value : Int32} (C0 : Cx p s m args c cX9_rain 5 RX9 wsX9_rain D (s_tys cI cB cZ) A) {rv : Int32 × (Nat → Int32) × Int64 × Int64 × (Nat → Int32)} (hend : ∀ (pc : Nat) (H : Heap) (locs : List Loc) (ls : Array Slot), decode cX9_rain pc = .ok (.ireturn, 1) → sS D vwCl A s.heap (wd_X9_rain cI cB cZ a_this a_all a_kept a_isKept a_refused a_hand a_outs a_order0 a_bestOrder a_tells a_bytes a_anew a_values all rv.2.1 rv.2.2.1 rv.2.2.2.1 rv.2.2.2.2 bytesLong tokenAt tokenLong token value) H locs → W p l e rm_X9_rain s m args below meth c H locs 0 0 Q (F0 m pc ls [.int rv.1])) : ∀ (refused : (Nat → Int32)) (above : Int64) (below_ : Int64) (hand : (Nat → Int32)) (l1 : Int32) (l2 : Int32) (t0 : Int64) (H : Heap) (locs : List Loc) (ls : Array Slot), f_X9_rain_b89 all refused above below_ hand l1 l2 t0 = some rv → sS D vwCl A s.heap (wd_X9_rain cI cB cZ a_this a_all a_kept a_isKept a_refused a_hand a_outs a_order0 a_bestOrder a_tells a_bytes a_anew a_values all refused above below_ hand bytesLong tokenAt tokenLong token value) H locs → lv_has ls 5 [(0, .ref a_this), (1, .int l1), (2, .int l2)] → W p l e rm_X9_rain s m args below meth c H locs 0 0 Q (F0 m 89 ls [.long t0]) := by
  obtain ⟨hx, hb, hml, hown, hts, hK, hA⟩ := id C0
  have inX9 : ∀ w ∈ u_ws RX9 TX9 19, w ∈ wsX9_rain := inX9_X9_rain
  intro refused above below_ hand l1 l2 t0 H locs ls h hS hl
  unfold f_X9_rain_b89 at h
  refine lv_lstore_n (lv' := [(3, .long t0), (0, .ref a_this), (1, .int l1), (2, .int l2)]) hx hb dX9_rain_89 rfl hl (by decide) rfl (fun ls hl => ?_)
  refine lv_lload_n hx hb dX9_rain_90 rfl (lv_at hl 0 rfl) ?_
  refine lv_aload_n hx hb dX9_rain_91 rfl (lv_at hl 1 rfl) ?_
  refine s_get (C := RX9) (T := TX9) (N := 19) hx hb hts inX9 hown hK hS 0 rfl rfl 6 (by decide) (hts (.fieldLink RX9 27 "InnTurnedModel" "hand" "[I") (List.mem_of_getElem? (i := 3) rfl)) rfl rfl dX9_rain_92 ?_
  refine lv_iload_n hx hb dX9_rain_95 rfl (lv_at hl 2 rfl) ?_
  obtain ⟨q3, hq3, h⟩ := s_bind h
  refine u_calliS (r := q3) (As := [.ref a_hand, .int l1]) (rest := [.long t0]) (wc := (wd_X9_letsIn cI cB cZ a_hand 38 hand)) hx hb hml hown hts hK hA hl hS (c_X9_letsIn l D cI cB cZ a_hand 38 hand l1 _ _ hq3) (va_cwS 2 hts gX9_rain_X9_letsIn rfl rfl rfl (by decide +kernel) ⟨Nat.le_of_ble_eq_true rfl, Nat.le_of_ble_eq_true rfl⟩) [3] rfl rfl rfl rfl (Nat.le_of_ble_eq_true rfl) dX9_rain_96 (fun H locs hS => ?_)
  refine lv_if_eq (tgt := 107) hx hb dX9_rain_99 (by decide) (fun c4 => ?_) (fun c4 => ?_)
  · replace h := s_yes c4 h
    refine lv_lconst (v := (0 : Int64)) hx hb dX9_rain_107 (by decide) ?_
    exact w_X9_rain_b108 C0 hend  refused above below_ hand (0 : Int64) t0 _ _ _ h hS (lv_sub hl [1] rfl)
  replace h := s_no c4 h
  refine lv_iload_n hx hb dX9_rain_102 rfl (lv_at hl 3 rfl) ?_
  refine lv_i2l (v := (Int32.toInt64 l2)) hx hb dX9_rain_103 rfl ?_
  refine lv_goto (tgt := 108) hx hb dX9_rain_104 (by decide) ?_
  exact w_X9_rain_b108 C0 hend  refused above below_ hand (Int32.toInt64 l2) t0 _ _ _ h hS (lv_sub hl [1] rfl)
def f_X9_rain  (all : (Nat → Int32)) (refused : (Nat → Int32)) (above : Int64) (below_ : Int64) (hand : (Nat → Int32)) (p1 : Int32) (p2 : Int32) : Option (Int32 × (Nat → Int32) × Int64 × Int64 × (Nat → Int32)) := ((f_X9_isOne all p1).bind fun q5 => (if q5 = 0 then f_X9_rain_b20  all refused above below_ hand else ((f_X9_in (Int32.toInt64 p2) (0 : Int64) (10 : Int64)).bind fun q7 => (if q7 = 0 then f_X9_rain_b20  all refused above below_ hand else ((f_X9_has (all (Int32.toNatClampNeg (19 : Int32))) p1).bind fun q9 => (if q9 = 0 then ((f_X9_layHand all hand).bind fun q11 => (if ¬ (((25 : Int32) + ((all (Int32.toNatClampNeg (22 : Int32))) - (all (Int32.toNatClampNeg (22 : Int32))) / (6 : Int32) * (6 : Int32))) < 0 ∨ 38 ≤ (Int32.toNatClampNeg ((25 : Int32) + ((all (Int32.toNatClampNeg (22 : Int32))) - (all (Int32.toNatClampNeg (22 : Int32))) / (6 : Int32) * (6 : Int32))))) then ((f_X9_letsIn 250 all p1).bind fun q13 => (if q13 = 0 then f_X9_rain_b89  all refused above below_ (upd q11 (Int32.toNatClampNeg ((25 : Int32) + ((all (Int32.toNatClampNeg (22 : Int32))) - (all (Int32.toNatClampNeg (22 : Int32))) / (6 : Int32) * (6 : Int32)))) (4 : Int32)) p1 p2 (0 : Int64) else f_X9_rain_b89  all refused above below_ (upd q11 (Int32.toNatClampNeg ((25 : Int32) + ((all (Int32.toNatClampNeg (22 : Int32))) - (all (Int32.toNatClampNeg (22 : Int32))) / (6 : Int32) * (6 : Int32)))) (4 : Int32)) p1 p2 (Int32.toInt64 ((10 : Int32) - p2)))) else none)) else ((f_X9_no refused).bind fun q15 => some (q15.1, q15.2, above, below_, hand))))))))
set_option maxHeartbeats 4000000 in
set_option maxRecDepth 100000 in
theorem c_X9_rain (l : Launch) (D : va_G) (cI cB cZ : ClassId) (a_this : Nat) (a_all : Nat) (a_kept : Nat) (a_isKept : Nat) (a_refused : Nat) (a_hand : Nat) (a_outs : Nat) (a_order0 : Nat) (a_bestOrder : Nat) (a_tells : Nat) (a_bytes : Nat) (a_anew : Nat) (a_values : Nat) (all : (Nat → Int32)) (refused : (Nat → Int32)) (above : Int64) (below_ : Int64) (hand : (Nat → Int32)) (bytesLong : Int32) (tokenAt : Int32) (tokenLong : Int32) (token : Int32) (value : Int32) (p1 : Int32) (p2 : Int32) (rv : Int32 × (Nat → Int32) × Int64 × Int64 × (Nat → Int32)) (sz : Nat) (hf : f_X9_rain all refused above below_ hand p1 p2 = some rv) : Met l yX9_rain wsX9_rain rm_X9_rain (sPc D vwCl (s_tys cI cB cZ) [.ref a_this, .int p1, .int p2] (wd_X9_rain cI cB cZ a_this a_all a_kept a_isKept a_refused a_hand a_outs a_order0 a_bestOrder a_tells a_bytes a_anew a_values all refused above below_ hand bytesLong tokenAt tokenLong token value) sz) (sQi D vwCl (wd_X9_rain cI cB cZ a_this a_all a_kept a_isKept a_refused a_hand a_outs a_order0 a_bestOrder a_tells a_bytes a_anew a_values all refused above below_ hand bytesLong tokenAt tokenLong token value) (wd_X9_rain cI cB cZ a_this a_all a_kept a_isKept a_refused a_hand a_outs a_order0 a_bestOrder a_tells a_bytes a_anew a_values all rv.2.1 rv.2.2.1 rv.2.2.2.1 rv.2.2.2.2 bytesLong tokenAt tokenLong token value) sz rv.1) 0 0 (va_A (wd_X9_rain cI cB cZ a_this a_all a_kept a_isKept a_refused a_hand a_outs a_order0 a_bestOrder a_tells a_bytes a_anew a_values all refused above below_ hand bytesLong tokenAt tokenLong token value) sz) := by
  refine s_enter_n (cc := cX9_rain) (nL := 5) (r := rv.1) (by decide) rfl (Nat.le_of_ble_eq_true rfl) ?_
  intro p e s m args below meth c A Q C0 hend ls hl hS
  have h := hf
  clear hf
  replace hl : lv_has ls 5 [(0, .ref a_this), (1, .int p1), (2, .int p2)] := hl
  unfold f_X9_rain at h
  obtain ⟨hx, hb, hml, hown, hts, hK, hA⟩ := id C0
  have inX9 : ∀ w ∈ u_ws RX9 TX9 19, w ∈ wsX9_rain := inX9_X9_rain
  refine lv_aload_n hx hb dX9_rain_0 rfl (lv_at hl 0 rfl) ?_
  refine lv_iload_n hx hb dX9_rain_1 rfl (lv_at hl 1 rfl) ?_
  obtain ⟨q5, hq5, h⟩ := s_bind h
  refine u_calliV (r := q5) (As := [.int p1]) (rest := []) (wc := (wd_X9_isOne cI cB cZ a_this a_all a_kept a_isKept a_refused a_hand a_outs a_order0 a_bestOrder a_tells a_bytes a_anew a_values all above below_ bytesLong tokenAt tokenLong token value)) hx hb hml hown hts hK hA hl hS (c_X9_isOne l D cI cB cZ a_this a_all a_kept a_isKept a_refused a_hand a_outs a_order0 a_bestOrder a_tells a_bytes a_anew a_values all above below_ bytesLong tokenAt tokenLong token value p1 _ _ hq5) (cwV 1 hts gX9_rain_X9_isOne rfl rfl rfl (by decide +kernel) ⟨Nat.le_of_ble_eq_true rfl, Nat.le_of_ble_eq_true rfl⟩) 0 rfl rfl [0, 1] rfl rfl rfl rfl (Nat.le_of_ble_eq_true rfl) dX9_rain_2 (fun H locs hS => ?_)
  refine lv_if_eq (tgt := 20) hx hb dX9_rain_5 (by decide) (fun c6 => ?_) (fun c6 => ?_)
  · replace h := s_yes c6 h
    exact w_X9_rain_b20 C0 hend  refused above below_ hand _ _ _ h hS (lv_sub hl [0] rfl)
  replace h := s_no c6 h
  refine lv_iload_n hx hb dX9_rain_8 rfl (lv_at hl 2 rfl) ?_
  refine lv_i2l (v := (Int32.toInt64 p2)) hx hb dX9_rain_9 rfl ?_
  refine lv_lconst (v := (0 : Int64)) hx hb dX9_rain_10 (by decide) ?_
  refine lv_ldc2 (v := (10 : Int64)) hx hb hown (hts (.constantLong RX9 196 (10)) (List.mem_of_getElem? (i := 1) rfl)) dX9_rain_11 ?_
  obtain ⟨q7, hq7, h⟩ := s_bind h
  refine u_calliS (r := q7) (As := [.long (Int32.toInt64 p2), .long (0 : Int64), .long (10 : Int64)]) (rest := []) (wc := ([] : va_W)) hx hb hml hown hts hK hA hl hS (c_X9_in l D cI cB cZ (Int32.toInt64 p2) (0 : Int64) (10 : Int64) _ _ hq7) (va_cwS 3 hts gX9_rain_X9_in rfl rfl rfl (by decide +kernel) ⟨Nat.le_of_ble_eq_true rfl, Nat.le_of_ble_eq_true rfl⟩) [] rfl rfl rfl rfl (Nat.le_of_ble_eq_true rfl) dX9_rain_14 (fun H locs hS => ?_)
  refine lv_if_ne (tgt := 27) hx hb dX9_rain_17 (by decide) (fun c8 => ?_) (fun c8 => ?_)
  · replace h := s_no c8 h
    refine lv_aload_n hx hb dX9_rain_27 rfl (lv_at hl 0 rfl) ?_
    refine s_get (C := RX9) (T := TX9) (N := 19) hx hb hts inX9 hown hK hS 0 rfl rfl 0 (by decide) (hts (.fieldLink RX9 7 "InnTurnedModel" "all" "[I") (List.mem_of_getElem? (i := 2) rfl)) rfl rfl dX9_rain_28 ?_
    refine lv_bipush (v := (19 : Int32)) hx hb dX9_rain_31 (by decide) ?_
    refine s_iald hx hb hK hS 1 rfl rfl (by decide) dX9_rain_33 ?_
    refine lv_iload_n hx hb dX9_rain_34 rfl (lv_at hl 1 rfl) ?_
    obtain ⟨q9, hq9, h⟩ := s_bind h
    refine u_calliS (r := q9) (As := [.int (all (Int32.toNatClampNeg (19 : Int32))), .int p1]) (rest := []) (wc := ([] : va_W)) hx hb hml hown hts hK hA hl hS (c_X9_has l D cI cB cZ (all (Int32.toNatClampNeg (19 : Int32))) p1 _ _ hq9) (va_cwS 2 hts gX9_rain_X9_has rfl rfl rfl (by decide +kernel) ⟨Nat.le_of_ble_eq_true rfl, Nat.le_of_ble_eq_true rfl⟩) [] rfl rfl rfl rfl (Nat.le_of_ble_eq_true rfl) dX9_rain_35 (fun H locs hS => ?_)
    refine lv_if_eq (tgt := 46) hx hb dX9_rain_38 (by decide) (fun c10 => ?_) (fun c10 => ?_)
    · replace h := s_yes c10 h
      refine lv_aload_n hx hb dX9_rain_46 rfl (lv_at hl 0 rfl) ?_
      obtain ⟨q11, hq11, h⟩ := s_bind h
      refine r_callvV (As := []) (rest := []) (wc := (wd_X9_layHand cI cB cZ a_this a_all a_kept a_isKept a_refused a_hand a_outs a_order0 a_bestOrder a_tells a_bytes a_anew a_values all above below_ hand bytesLong tokenAt tokenLong token value)) (w1 := (wd_X9_layHand cI cB cZ a_this a_all a_kept a_isKept a_refused a_hand a_outs a_order0 a_bestOrder a_tells a_bytes a_anew a_values all above below_ q11 bytesLong tokenAt tokenLong token value)) (ws' := (wd_X9_rain cI cB cZ a_this a_all a_kept a_isKept a_refused a_hand a_outs a_order0 a_bestOrder a_tells a_bytes a_anew a_values all refused above below_ q11 bytesLong tokenAt tokenLong token value)) hx hb hml hown hts hK hA hl hS (c_X9_layHand l D cI cB cZ a_this a_all a_kept a_isKept a_refused a_hand a_outs a_order0 a_bestOrder a_tells a_bytes a_anew a_values all above below_ hand bytesLong tokenAt tokenLong token value _ _ hq11) (cwV 0 hts gX9_rain_X9_layHand rfl rfl rfl (by decide +kernel) ⟨Nat.le_of_ble_eq_true rfl, Nat.le_of_ble_eq_true rfl⟩) 0 rfl rfl [0, 1, 3] rfl rfl rfl [.inr 0, .inr 1, .inl 2, .inr 2] rfl rfl rfl rfl (Nat.le_of_ble_eq_true rfl) dX9_rain_47 (fun H locs hS => ?_)
      refine lv_aload_n hx hb dX9_rain_50 rfl (lv_at hl 0 rfl) ?_
      refine s_get (C := RX9) (T := TX9) (N := 19) hx hb hts inX9 hown hK hS 0 rfl rfl 6 (by decide) (hts (.fieldLink RX9 27 "InnTurnedModel" "hand" "[I") (List.mem_of_getElem? (i := 3) rfl)) rfl rfl dX9_rain_51 ?_
      refine lv_bipush (v := (25 : Int32)) hx hb dX9_rain_54 (by decide) ?_
      refine lv_aload_n hx hb dX9_rain_56 rfl (lv_at hl 0 rfl) ?_
      refine s_get (C := RX9) (T := TX9) (N := 19) hx hb hts inX9 hown hK hS 0 rfl rfl 0 (by decide) (hts (.fieldLink RX9 7 "InnTurnedModel" "all" "[I") (List.mem_of_getElem? (i := 2) rfl)) rfl rfl dX9_rain_57 ?_
      refine lv_bipush (v := (22 : Int32)) hx hb dX9_rain_60 (by decide) ?_
      refine s_iald hx hb hK hS 1 rfl rfl (by decide) dX9_rain_62 ?_
      refine lv_bipush (v := (6 : Int32)) hx hb dX9_rain_63 (by decide) ?_
      refine lv_irem hx hb dX9_rain_65 (by decide) ?_
      refine lv_iadd hx hb dX9_rain_66 ?_
      refine lv_iconst (v := (4 : Int32)) hx hb dX9_rain_67 (by decide) ?_
      obtain ⟨g12, h⟩ := s_guard h
      refine s_iast (ws' := (wd_X9_rain cI cB cZ a_this a_all a_kept a_isKept a_refused a_hand a_outs a_order0 a_bestOrder a_tells a_bytes a_anew a_values all refused above below_ (upd q11 (Int32.toNatClampNeg ((25 : Int32) + ((all (Int32.toNatClampNeg (22 : Int32))) - (all (Int32.toNatClampNeg (22 : Int32))) / (6 : Int32) * (6 : Int32)))) (4 : Int32)) bytesLong tokenAt tokenLong token value)) hx hb hK hS 3 rfl rfl g12 rfl dX9_rain_68 (fun H locs hS => ?_)
      refine lv_aload_n hx hb dX9_rain_69 rfl (lv_at hl 0 rfl) ?_
      refine s_get (C := RX9) (T := TX9) (N := 19) hx hb hts inX9 hown hK hS 0 rfl rfl 0 (by decide) (hts (.fieldLink RX9 7 "InnTurnedModel" "all" "[I") (List.mem_of_getElem? (i := 2) rfl)) rfl rfl dX9_rain_70 ?_
      refine lv_iload_n hx hb dX9_rain_73 rfl (lv_at hl 1 rfl) ?_
      obtain ⟨q13, hq13, h⟩ := s_bind h
      refine u_calliS (r := q13) (As := [.ref a_all, .int p1]) (rest := []) (wc := (wd_X9_letsIn cI cB cZ a_all 250 all)) hx hb hml hown hts hK hA hl hS (c_X9_letsIn l D cI cB cZ a_all 250 all p1 _ _ hq13) (va_cwS 2 hts gX9_rain_X9_letsIn rfl rfl rfl (by decide +kernel) ⟨Nat.le_of_ble_eq_true rfl, Nat.le_of_ble_eq_true rfl⟩) [1] rfl rfl rfl rfl (Nat.le_of_ble_eq_true rfl) dX9_rain_74 (fun H locs hS => ?_)
      refine lv_if_eq (tgt := 88) hx hb dX9_rain_77 (by decide) (fun c14 => ?_) (fun c14 => ?_)
      · replace h := s_yes c14 h
        refine lv_lconst (v := (0 : Int64)) hx hb dX9_rain_88 (by decide) ?_
        exact w_X9_rain_b89 C0 hend  refused above below_ (upd q11 (Int32.toNatClampNeg ((25 : Int32) + ((all (Int32.toNatClampNeg (22 : Int32))) - (all (Int32.toNatClampNeg (22 : Int32))) / (6 : Int32) * (6 : Int32)))) (4 : Int32)) p1 p2 (0 : Int64) _ _ _ h hS (lv_sub hl [0, 1, 2] rfl)
      replace h := s_no c14 h
      refine lv_bipush (v := (10 : Int32)) hx hb dX9_rain_80 (by decide) ?_
      refine lv_iload_n hx hb dX9_rain_82 rfl (lv_at hl 2 rfl) ?_
      refine lv_isub hx hb dX9_rain_83 ?_
      refine lv_i2l (v := (Int32.toInt64 ((10 : Int32) - p2))) hx hb dX9_rain_84 rfl ?_
      refine lv_goto (tgt := 89) hx hb dX9_rain_85 (by decide) ?_
      exact w_X9_rain_b89 C0 hend  refused above below_ (upd q11 (Int32.toNatClampNeg ((25 : Int32) + ((all (Int32.toNatClampNeg (22 : Int32))) - (all (Int32.toNatClampNeg (22 : Int32))) / (6 : Int32) * (6 : Int32)))) (4 : Int32)) p1 p2 (Int32.toInt64 ((10 : Int32) - p2)) _ _ _ h hS (lv_sub hl [0, 1, 2] rfl)
    replace h := s_no c10 h
    refine lv_aload_n hx hb dX9_rain_41 rfl (lv_at hl 0 rfl) ?_
    obtain ⟨q15, hq15, h⟩ := s_bind h
    refine r_calliV (r := q15.1) (As := []) (rest := []) (wc := (wd_X9_no cI cB cZ a_this a_all a_kept a_isKept a_refused a_hand a_outs a_order0 a_bestOrder a_tells a_bytes a_anew a_values refused above below_ bytesLong tokenAt tokenLong token value)) (w1 := (wd_X9_no cI cB cZ a_this a_all a_kept a_isKept a_refused a_hand a_outs a_order0 a_bestOrder a_tells a_bytes a_anew a_values q15.2 above below_ bytesLong tokenAt tokenLong token value)) (ws' := (wd_X9_rain cI cB cZ a_this a_all a_kept a_isKept a_refused a_hand a_outs a_order0 a_bestOrder a_tells a_bytes a_anew a_values all q15.2 above below_ hand bytesLong tokenAt tokenLong token value)) hx hb hml hown hts hK hA hl hS (c_X9_no l D cI cB cZ a_this a_all a_kept a_isKept a_refused a_hand a_outs a_order0 a_bestOrder a_tells a_bytes a_anew a_values refused above below_ bytesLong tokenAt tokenLong token value _ _ hq15) (cwV 0 hts gX9_rain_X9_no rfl rfl rfl (by decide +kernel) ⟨Nat.le_of_ble_eq_true rfl, Nat.le_of_ble_eq_true rfl⟩) 0 rfl rfl [0, 2] rfl rfl rfl [.inr 0, .inl 1, .inr 1, .inl 3] rfl rfl rfl rfl (Nat.le_of_ble_eq_true rfl) dX9_rain_42 (fun H locs hS => ?_)
    obtain rfl := Option.some.inj h
    exact hend _ _ _ _ dX9_rain_45 hS
  replace h := s_yes c8 h
  exact w_X9_rain_b20 C0 hend  refused above below_ hand _ _ _ h hS (lv_sub hl [0] rfl)

-- InnTurnedModel.decades(II)I
def wd_X9_decades (cI cB cZ : ClassId) (a_this : Nat) (a_all : Nat) (a_kept : Nat) (a_isKept : Nat) (a_refused : Nat) (a_hand : Nat) (a_outs : Nat) (a_order0 : Nat) (a_bestOrder : Nat) (a_tells : Nat) (a_bytes : Nat) (a_anew : Nat) (a_values : Nat)  (all : (Nat → Int32)) (refused : (Nat → Int32)) (above : Int64) (below_ : Int64) (hand : (Nat → Int32)) (bytesLong : Int32) (tokenAt : Int32) (tokenLong : Int32) (token : Int32) (value : Int32) : va_W := [(a_this, .inr (6, [.ref a_all, .ref a_kept, .ref a_isKept, .ref a_refused, .long above, .long below_, .ref a_hand, .ref a_outs, .ref a_order0, .ref a_bestOrder, .ref a_tells, .ref a_bytes, .int bytesLong, .int tokenAt, .int tokenLong, .int token, .int value, .ref a_anew, .ref a_values])), (a_all, .inl (cI, 250, .inl all)), (a_refused, .inl (cI, 3, .inl refused)), (a_hand, .inl (cI, 38, .inl hand))]
abbrev rm_X9_decades : Room := { frames := 4, cells := 0, slots := 0, locals := 89 }
set_option maxRecDepth 20000 in
theorem inX9_X9_decades : ∀ w ∈ u_ws RX9 TX9 19, w ∈ wsX9_decades := by decide +kernel
def f_X9_decades_b24  (all : (Nat → Int32)) (refused : (Nat → Int32)) (hand : (Nat → Int32)) : Option (Int32 × (Nat → Int32) × (Nat → Int32)) := ((f_X9_bad refused (-2 : Int32)).bind fun q1 => some (q1.1, q1.2, hand))
set_option maxHeartbeats 4000000 in
set_option maxRecDepth 100000 in
theorem w_X9_decades_b24 {p : Program} {l : Launch} {e : Env} {s : State} {m : MethodId} {args : Array Value} {below : List Frame} {meth : Method} {c : Code} {A : Nat → Prop} {Q : State → Prop} {D : va_G} {cI cB cZ : ClassId} {a_this a_all a_kept a_isKept a_refused a_hand a_outs a_order0 a_bestOrder a_tells a_bytes a_anew a_values : Nat} {all : (Nat → Int32)} {above : Int64} {below_ : Int64} {bytesLong : Int32} {tokenAt : Int32} {tokenLong : Int32} {token : Int32} {value : Int32} (C0 : Cx p s m args c cX9_decades 8 RX9 wsX9_decades D (s_tys cI cB cZ) A) {rv : Int32 × (Nat → Int32) × (Nat → Int32)} (hend : ∀ (pc : Nat) (H : Heap) (locs : List Loc) (ls : Array Slot), decode cX9_decades pc = .ok (.ireturn, 1) → sS D vwCl A s.heap (wd_X9_decades cI cB cZ a_this a_all a_kept a_isKept a_refused a_hand a_outs a_order0 a_bestOrder a_tells a_bytes a_anew a_values all rv.2.1 above below_ rv.2.2 bytesLong tokenAt tokenLong token value) H locs → W p l e rm_X9_decades s m args below meth c H locs 0 0 Q (F0 m pc ls [.int rv.1])) : ∀ (refused : (Nat → Int32)) (hand : (Nat → Int32)) (H : Heap) (locs : List Loc) (ls : Array Slot), f_X9_decades_b24 all refused hand = some rv → sS D vwCl A s.heap (wd_X9_decades cI cB cZ a_this a_all a_kept a_isKept a_refused a_hand a_outs a_order0 a_bestOrder a_tells a_bytes a_anew a_values all refused above below_ hand bytesLong tokenAt tokenLong token value) H locs → lv_has ls 8 [(0, .ref a_this)] → W p l e rm_X9_decades s m args below meth c H locs 0 0 Q (F0 m 24 ls []) := by
  obtain ⟨hx, hb, hml, hown, hts, hK, hA⟩ := id C0
  have inX9 : ∀ w ∈ u_ws RX9 TX9 19, w ∈ wsX9_decades := inX9_X9_decades
  intro refused hand H locs ls h hS hl
  unfold f_X9_decades_b24 at h
  refine lv_aload_n hx hb dX9_decades_24 rfl (lv_at hl 0 rfl) ?_
  refine lv_bipush (v := (-2 : Int32)) hx hb dX9_decades_25 (by decide) ?_
  obtain ⟨q1, hq1, h⟩ := s_bind h
  refine r_calliV (r := q1.1) (As := [.int (-2 : Int32)]) (rest := []) (wc := (wd_X9_bad cI cB cZ a_this a_all a_kept a_isKept a_refused a_hand a_outs a_order0 a_bestOrder a_tells a_bytes a_anew a_values refused above below_ bytesLong tokenAt tokenLong token value)) (w1 := (wd_X9_bad cI cB cZ a_this a_all a_kept a_isKept a_refused a_hand a_outs a_order0 a_bestOrder a_tells a_bytes a_anew a_values q1.2 above below_ bytesLong tokenAt tokenLong token value)) (ws' := (wd_X9_decades cI cB cZ a_this a_all a_kept a_isKept a_refused a_hand a_outs a_order0 a_bestOrder a_tells a_bytes a_anew a_values all q1.2 above below_ hand bytesLong tokenAt tokenLong token value)) hx hb hml hown hts hK hA hl hS (c_X9_bad l D cI cB cZ a_this a_all a_kept a_isKept a_refused a_hand a_outs a_order0 a_bestOrder a_tells a_bytes a_anew a_values refused above below_ bytesLong tokenAt tokenLong token value (-2 : Int32) _ _ hq1) (cwV 1 hts gX9_decades_X9_bad rfl rfl rfl (by decide +kernel) ⟨Nat.le_of_ble_eq_true rfl, Nat.le_of_ble_eq_true rfl⟩) 0 rfl rfl [0, 2] rfl rfl rfl [.inr 0, .inl 1, .inr 1, .inl 3] rfl rfl rfl rfl (Nat.le_of_ble_eq_true rfl) dX9_decades_27 (fun H locs hS => ?_)
  obtain rfl := Option.some.inj h
  exact hend _ _ _ _ dX9_decades_30 hS
def f_X9_decades_b149 (k_b41 : (Nat → Int32) → (Nat → Int32) → Int32 → Int64 → Int32 → Option (Int32 × (Nat → Int32) × (Nat → Int32)))  (all : (Nat → Int32)) (refused : (Nat → Int32)) (hand : (Nat → Int32)) (l2 : Int32) (l3 : Int64) (l5 : Int32) : Option (Int32 × (Nat → Int32) × (Nat → Int32)) := k_b41 refused hand l2 l3 (l5 + (1 : Int32))
set_option maxHeartbeats 4000000 in
set_option maxRecDepth 100000 in
theorem w_X9_decades_b149 {p : Program} {l : Launch} {e : Env} {s : State} {m : MethodId} {args : Array Value} {below : List Frame} {meth : Method} {c : Code} {A : Nat → Prop} {Q : State → Prop} {D : va_G} {cI cB cZ : ClassId} {a_this a_all a_kept a_isKept a_refused a_hand a_outs a_order0 a_bestOrder a_tells a_bytes a_anew a_values : Nat} {all : (Nat → Int32)} {above : Int64} {below_ : Int64} {bytesLong : Int32} {tokenAt : Int32} {tokenLong : Int32} {token : Int32} {value : Int32} (C0 : Cx p s m args c cX9_decades 8 RX9 wsX9_decades D (s_tys cI cB cZ) A) {rv : Int32 × (Nat → Int32) × (Nat → Int32)} (hend : ∀ (pc : Nat) (H : Heap) (locs : List Loc) (ls : Array Slot), decode cX9_decades pc = .ok (.ireturn, 1) → sS D vwCl A s.heap (wd_X9_decades cI cB cZ a_this a_all a_kept a_isKept a_refused a_hand a_outs a_order0 a_bestOrder a_tells a_bytes a_anew a_values all rv.2.1 above below_ rv.2.2 bytesLong tokenAt tokenLong token value) H locs → W p l e rm_X9_decades s m args below meth c H locs 0 0 Q (F0 m pc ls [.int rv.1])) (k_b41 : (Nat → Int32) → (Nat → Int32) → Int32 → Int64 → Int32 → Option (Int32 × (Nat → Int32) × (Nat → Int32))) (hk_b41 : ∀ (refused : (Nat → Int32)) (hand : (Nat → Int32)) (l2 : Int32) (l3 : Int64) (l5 : Int32) (H : Heap) (locs : List Loc) (ls : Array Slot), k_b41 refused hand l2 l3 l5 = some rv → sS D vwCl A s.heap (wd_X9_decades cI cB cZ a_this a_all a_kept a_isKept a_refused a_hand a_outs a_order0 a_bestOrder a_tells a_bytes a_anew a_values all refused above below_ hand bytesLong tokenAt tokenLong token value) H locs → lv_has ls 8 [(0, .ref a_this), (2, .int l2), (3, .long l3), (5, .int l5)] → W p l e rm_X9_decades s m args below meth c H locs 0 0 Q (F0 m 41 ls [])) : ∀ (refused : (Nat → Int32)) (hand : (Nat → Int32)) (l2 : Int32) (l3 : Int64) (l5 : Int32) (H : Heap) (locs : List Loc) (ls : Array Slot), f_X9_decades_b149 k_b41 all refused hand l2 l3 l5 = some rv → sS D vwCl A s.heap (wd_X9_decades cI cB cZ a_this a_all a_kept a_isKept a_refused a_hand a_outs a_order0 a_bestOrder a_tells a_bytes a_anew a_values all refused above below_ hand bytesLong tokenAt tokenLong token value) H locs → lv_has ls 8 [(0, .ref a_this), (2, .int l2), (3, .long l3), (5, .int l5)] → W p l e rm_X9_decades s m args below meth c H locs 0 0 Q (F0 m 149 ls []) := by
  obtain ⟨hx, hb, hml, hown, hts, hK, hA⟩ := id C0
  have inX9 : ∀ w ∈ u_ws RX9 TX9 19, w ∈ wsX9_decades := inX9_X9_decades
  intro refused hand l2 l3 l5 H locs ls h hS hl
  unfold f_X9_decades_b149 at h
  refine lv_iinc (v := (l5 + (1 : Int32))) (lv' := [(5, .int (l5 + (1 : Int32))), (0, .ref a_this), (2, .int l2), (3, .long l3)]) hx hb dX9_decades_149 hl (k := 3) rfl rfl (by decide) rfl (fun ls hl => ?_)
  refine lv_goto (tgt := 41) hx hb dX9_decades_152 (by decide) ?_
  exact hk_b41 refused hand l2 l3 (l5 + (1 : Int32)) _ _ _ h hS (lv_sub hl [1, 2, 3, 0] rfl)
def f_X9_decades_b41  (all : (Nat → Int32)) : Nat → (Nat → Int32) → (Nat → Int32) → Int32 → Int64 → Int32 → Option (Int32 × (Nat → Int32) × (Nat → Int32))
  | 0, _, _, _, _, _ => none
  | fu + 1, refused, hand, l2, l3, l5 => (if l2 ≤ l5 then ((f_X9_bits (hand (Int32.toNatClampNeg (19 : Int32)))).bind fun q3 => some (q3, refused, hand)) else ((f_X9_isOne all (Int64.toInt32 (((((l3 * (1103515245 : Int64)) + (12345 : Int64)) - ((l3 * (1103515245 : Int64)) + (12345 : Int64)) / (2147483648 : Int64) * (2147483648 : Int64)) / (65536 : Int64)) - ((((l3 * (1103515245 : Int64)) + (12345 : Int64)) - ((l3 * (1103515245 : Int64)) + (12345 : Int64)) / (2147483648 : Int64) * (2147483648 : Int64)) / (65536 : Int64)) / (8 : Int64) * (8 : Int64)))).bind fun q4 => (if q4 = 0 then f_X9_decades_b149 (f_X9_decades_b41 all fu) all refused (upd (upd hand (Int32.toNatClampNeg (22 : Int32)) ((hand (Int32.toNatClampNeg (22 : Int32))) + (1 : Int32))) (Int32.toNatClampNeg (20 : Int32)) (0 : Int32)) l2 (((l3 * (1103515245 : Int64)) + (12345 : Int64)) - ((l3 * (1103515245 : Int64)) + (12345 : Int64)) / (2147483648 : Int64) * (2147483648 : Int64)) l5 else ((f_X9_has (hand (Int32.toNatClampNeg (19 : Int32))) (Int64.toInt32 (((((l3 * (1103515245 : Int64)) + (12345 : Int64)) - ((l3 * (1103515245 : Int64)) + (12345 : Int64)) / (2147483648 : Int64) * (2147483648 : Int64)) / (65536 : Int64)) - ((((l3 * (1103515245 : Int64)) + (12345 : Int64)) - ((l3 * (1103515245 : Int64)) + (12345 : Int64)) / (2147483648 : Int64) * (2147483648 : Int64)) / (65536 : Int64)) / (8 : Int64) * (8 : Int64)))).bind fun q6 => (if q6 = 0 then ((f_X9_goCome 38 hand (Int64.toInt32 (((((l3 * (1103515245 : Int64)) + (12345 : Int64)) - ((l3 * (1103515245 : Int64)) + (12345 : Int64)) / (2147483648 : Int64) * (2147483648 : Int64)) / (65536 : Int64)) - ((((l3 * (1103515245 : Int64)) + (12345 : Int64)) - ((l3 * (1103515245 : Int64)) + (12345 : Int64)) / (2147483648 : Int64) * (2147483648 : Int64)) / (65536 : Int64)) / (8 : Int64) * (8 : Int64)))).bind fun q8 => f_X9_decades_b149 (f_X9_decades_b41 all fu) all refused q8.2 l2 (((l3 * (1103515245 : Int64)) + (12345 : Int64)) - ((l3 * (1103515245 : Int64)) + (12345 : Int64)) / (2147483648 : Int64) * (2147483648 : Int64)) l5) else f_X9_decades_b149 (f_X9_decades_b41 all fu) all refused (upd hand (Int32.toNatClampNeg (19 : Int32)) ((hand (Int32.toNatClampNeg (19 : Int32))) &&& (((1 : Int32) <<< ((Int64.toInt32 (((((l3 * (1103515245 : Int64)) + (12345 : Int64)) - ((l3 * (1103515245 : Int64)) + (12345 : Int64)) / (2147483648 : Int64) * (2147483648 : Int64)) / (65536 : Int64)) - ((((l3 * (1103515245 : Int64)) + (12345 : Int64)) - ((l3 * (1103515245 : Int64)) + (12345 : Int64)) / (2147483648 : Int64) * (2147483648 : Int64)) / (65536 : Int64)) / (8 : Int64) * (8 : Int64))) &&& 31)) ^^^ (-1 : Int32)))) l2 (((l3 * (1103515245 : Int64)) + (12345 : Int64)) - ((l3 * (1103515245 : Int64)) + (12345 : Int64)) / (2147483648 : Int64) * (2147483648 : Int64)) l5)))))
set_option maxHeartbeats 4000000 in
set_option maxRecDepth 100000 in
theorem w_X9_decades_b41 {p : Program} {l : Launch} {e : Env} {s : State} {m : MethodId} {args : Array Value} {below : List Frame} {meth : Method} {c : Code} {A : Nat → Prop} {Q : State → Prop} {D : va_G} {cI cB cZ : ClassId} {a_this a_all a_kept a_isKept a_refused a_hand a_outs a_order0 a_bestOrder a_tells a_bytes a_anew a_values : Nat} {all : (Nat → Int32)} {above : Int64} {below_ : Int64} {bytesLong : Int32} {tokenAt : Int32} {tokenLong : Int32} {token : Int32} {value : Int32} (C0 : Cx p s m args c cX9_decades 8 RX9 wsX9_decades D (s_tys cI cB cZ) A) {rv : Int32 × (Nat → Int32) × (Nat → Int32)} (hend : ∀ (pc : Nat) (H : Heap) (locs : List Loc) (ls : Array Slot), decode cX9_decades pc = .ok (.ireturn, 1) → sS D vwCl A s.heap (wd_X9_decades cI cB cZ a_this a_all a_kept a_isKept a_refused a_hand a_outs a_order0 a_bestOrder a_tells a_bytes a_anew a_values all rv.2.1 above below_ rv.2.2 bytesLong tokenAt tokenLong token value) H locs → W p l e rm_X9_decades s m args below meth c H locs 0 0 Q (F0 m pc ls [.int rv.1])) : ∀ (fu : Nat) (refused : (Nat → Int32)) (hand : (Nat → Int32)) (l2 : Int32) (l3 : Int64) (l5 : Int32) (H : Heap) (locs : List Loc) (ls : Array Slot), f_X9_decades_b41 all fu refused hand l2 l3 l5 = some rv → sS D vwCl A s.heap (wd_X9_decades cI cB cZ a_this a_all a_kept a_isKept a_refused a_hand a_outs a_order0 a_bestOrder a_tells a_bytes a_anew a_values all refused above below_ hand bytesLong tokenAt tokenLong token value) H locs → lv_has ls 8 [(0, .ref a_this), (2, .int l2), (3, .long l3), (5, .int l5)] → W p l e rm_X9_decades s m args below meth c H locs 0 0 Q (F0 m 41 ls []) := by
  obtain ⟨hx, hb, hml, hown, hts, hK, hA⟩ := id C0
  have inX9 : ∀ w ∈ u_ws RX9 TX9 19, w ∈ wsX9_decades := inX9_X9_decades
  intro fu
  induction fu with
  | zero => intro refused hand l2 l3 l5 H locs ls h; cases h
  | succ fu ih =>
    intro refused hand l2 l3 l5 H locs ls h hS hl
    rw [f_X9_decades_b41] at h
    refine lv_iload hx hb dX9_decades_41 (lv_at hl 3 rfl) ?_
    refine lv_iload_n hx hb dX9_decades_43 rfl (lv_at hl 1 rfl) ?_
    refine lv_icmp_ge (tgt := 155) hx hb dX9_decades_44 (by decide) (fun c2 => ?_) (fun c2 => ?_)
    · replace h := s_yes c2 h
      refine lv_aload_n hx hb dX9_decades_155 rfl (lv_at hl 0 rfl) ?_
      refine s_get (C := RX9) (T := TX9) (N := 19) hx hb hts inX9 hown hK hS 0 rfl rfl 6 (by decide) (hts (.fieldLink RX9 27 "InnTurnedModel" "hand" "[I") (List.mem_of_getElem? (i := 8) rfl)) rfl rfl dX9_decades_156 ?_
      refine lv_bipush (v := (19 : Int32)) hx hb dX9_decades_159 (by decide) ?_
      refine s_iald hx hb hK hS 3 rfl rfl (by decide) dX9_decades_161 ?_
      obtain ⟨q3, hq3, h⟩ := s_bind h
      refine u_calliS (r := q3) (As := [.int (hand (Int32.toNatClampNeg (19 : Int32)))]) (rest := []) (wc := ([] : va_W)) hx hb hml hown hts hK hA hl hS (c_X9_bits l D cI cB cZ (hand (Int32.toNatClampNeg (19 : Int32))) _ _ hq3) (va_cwS 1 hts gX9_decades_X9_bits rfl rfl rfl (by decide +kernel) ⟨Nat.le_of_ble_eq_true rfl, Nat.le_of_ble_eq_true rfl⟩) [] rfl rfl rfl rfl (Nat.le_of_ble_eq_true rfl) dX9_decades_162 (fun H locs hS => ?_)
      obtain rfl := Option.some.inj h
      exact hend _ _ _ _ dX9_decades_165 hS
    replace h := s_no c2 h
    refine lv_lload_n hx hb dX9_decades_47 rfl (lv_at hl 2 rfl) ?_
    refine lv_ldc2 (v := (1103515245 : Int64)) hx hb hown (hts (.constantLong RX9 204 (1103515245)) (List.mem_of_getElem? (i := 3) rfl)) dX9_decades_48 ?_
    refine lv_lmul hx hb dX9_decades_51 ?_
    refine lv_ldc2 (v := (12345 : Int64)) hx hb hown (hts (.constantLong RX9 206 (12345)) (List.mem_of_getElem? (i := 4) rfl)) dX9_decades_52 ?_
    refine lv_ladd hx hb dX9_decades_55 ?_
    refine lv_ldc2 (v := (2147483648 : Int64)) hx hb hown (hts (.constantLong RX9 208 (2147483648)) (List.mem_of_getElem? (i := 5) rfl)) dX9_decades_56 ?_
    refine lv_lrem hx hb dX9_decades_59 (by decide) ?_
    refine lv_lstore_n (lv' := [(3, .long (((l3 * (1103515245 : Int64)) + (12345 : Int64)) - ((l3 * (1103515245 : Int64)) + (12345 : Int64)) / (2147483648 : Int64) * (2147483648 : Int64))), (0, .ref a_this), (2, .int l2), (5, .int l5)]) hx hb dX9_decades_60 rfl hl (by decide) rfl (fun ls hl => ?_)
    refine lv_lload_n hx hb dX9_decades_61 rfl (lv_at hl 0 rfl) ?_
    refine lv_ldc2 (v := (65536 : Int64)) hx hb hown (hts (.constantLong RX9 210 (65536)) (List.mem_of_getElem? (i := 6) rfl)) dX9_decades_62 ?_
    refine lv_ldiv hx hb dX9_decades_65 (by decide) ?_
    refine lv_ldc2 (v := (8 : Int64)) hx hb hown (hts (.constantLong RX9 212 (8)) (List.mem_of_getElem? (i := 7) rfl)) dX9_decades_66 ?_
    refine lv_lrem hx hb dX9_decades_69 (by decide) ?_
    refine lv_l2i (v := (Int64.toInt32 (((((l3 * (1103515245 : Int64)) + (12345 : Int64)) - ((l3 * (1103515245 : Int64)) + (12345 : Int64)) / (2147483648 : Int64) * (2147483648 : Int64)) / (65536 : Int64)) - ((((l3 * (1103515245 : Int64)) + (12345 : Int64)) - ((l3 * (1103515245 : Int64)) + (12345 : Int64)) / (2147483648 : Int64) * (2147483648 : Int64)) / (65536 : Int64)) / (8 : Int64) * (8 : Int64)))) hx hb dX9_decades_70 rfl ?_
    refine lv_istore (lv' := [(6, .int (Int64.toInt32 (((((l3 * (1103515245 : Int64)) + (12345 : Int64)) - ((l3 * (1103515245 : Int64)) + (12345 : Int64)) / (2147483648 : Int64) * (2147483648 : Int64)) / (65536 : Int64)) - ((((l3 * (1103515245 : Int64)) + (12345 : Int64)) - ((l3 * (1103515245 : Int64)) + (12345 : Int64)) / (2147483648 : Int64) * (2147483648 : Int64)) / (65536 : Int64)) / (8 : Int64) * (8 : Int64)))), (3, .long (((l3 * (1103515245 : Int64)) + (12345 : Int64)) - ((l3 * (1103515245 : Int64)) + (12345 : Int64)) / (2147483648 : Int64) * (2147483648 : Int64))), (0, .ref a_this), (2, .int l2), (5, .int l5)]) hx hb dX9_decades_71 hl (by decide) rfl (fun ls hl => ?_)
    refine lv_aload_n hx hb dX9_decades_73 rfl (lv_at hl 2 rfl) ?_
    refine lv_iload hx hb dX9_decades_74 (lv_at hl 0 rfl) ?_
    obtain ⟨q4, hq4, h⟩ := s_bind h
    refine u_calliV (r := q4) (As := [.int (Int64.toInt32 (((((l3 * (1103515245 : Int64)) + (12345 : Int64)) - ((l3 * (1103515245 : Int64)) + (12345 : Int64)) / (2147483648 : Int64) * (2147483648 : Int64)) / (65536 : Int64)) - ((((l3 * (1103515245 : Int64)) + (12345 : Int64)) - ((l3 * (1103515245 : Int64)) + (12345 : Int64)) / (2147483648 : Int64) * (2147483648 : Int64)) / (65536 : Int64)) / (8 : Int64) * (8 : Int64)))]) (rest := []) (wc := (wd_X9_isOne cI cB cZ a_this a_all a_kept a_isKept a_refused a_hand a_outs a_order0 a_bestOrder a_tells a_bytes a_anew a_values all above below_ bytesLong tokenAt tokenLong token value)) hx hb hml hown hts hK hA hl hS (c_X9_isOne l D cI cB cZ a_this a_all a_kept a_isKept a_refused a_hand a_outs a_order0 a_bestOrder a_tells a_bytes a_anew a_values all above below_ bytesLong tokenAt tokenLong token value (Int64.toInt32 (((((l3 * (1103515245 : Int64)) + (12345 : Int64)) - ((l3 * (1103515245 : Int64)) + (12345 : Int64)) / (2147483648 : Int64) * (2147483648 : Int64)) / (65536 : Int64)) - ((((l3 * (1103515245 : Int64)) + (12345 : Int64)) - ((l3 * (1103515245 : Int64)) + (12345 : Int64)) / (2147483648 : Int64) * (2147483648 : Int64)) / (65536 : Int64)) / (8 : Int64) * (8 : Int64))) _ _ hq4) (cwV 1 hts gX9_decades_X9_isOne rfl rfl rfl (by decide +kernel) ⟨Nat.le_of_ble_eq_true rfl, Nat.le_of_ble_eq_true rfl⟩) 0 rfl rfl [0, 1] rfl rfl rfl rfl (Nat.le_of_ble_eq_true rfl) dX9_decades_76 (fun H locs hS => ?_)
    refine lv_if_ne (tgt := 104) hx hb dX9_decades_79 (by decide) (fun c5 => ?_) (fun c5 => ?_)
    · replace h := s_no c5 h
      refine lv_aload_n hx hb dX9_decades_104 rfl (lv_at hl 2 rfl) ?_
      refine s_get (C := RX9) (T := TX9) (N := 19) hx hb hts inX9 hown hK hS 0 rfl rfl 6 (by decide) (hts (.fieldLink RX9 27 "InnTurnedModel" "hand" "[I") (List.mem_of_getElem? (i := 8) rfl)) rfl rfl dX9_decades_105 ?_
      refine lv_bipush (v := (19 : Int32)) hx hb dX9_decades_108 (by decide) ?_
      refine s_iald hx hb hK hS 3 rfl rfl (by decide) dX9_decades_110 ?_
      refine lv_iload hx hb dX9_decades_111 (lv_at hl 0 rfl) ?_
      obtain ⟨q6, hq6, h⟩ := s_bind h
      refine u_calliS (r := q6) (As := [.int (hand (Int32.toNatClampNeg (19 : Int32))), .int (Int64.toInt32 (((((l3 * (1103515245 : Int64)) + (12345 : Int64)) - ((l3 * (1103515245 : Int64)) + (12345 : Int64)) / (2147483648 : Int64) * (2147483648 : Int64)) / (65536 : Int64)) - ((((l3 * (1103515245 : Int64)) + (12345 : Int64)) - ((l3 * (1103515245 : Int64)) + (12345 : Int64)) / (2147483648 : Int64) * (2147483648 : Int64)) / (65536 : Int64)) / (8 : Int64) * (8 : Int64)))]) (rest := []) (wc := ([] : va_W)) hx hb hml hown hts hK hA hl hS (c_X9_has l D cI cB cZ (hand (Int32.toNatClampNeg (19 : Int32))) (Int64.toInt32 (((((l3 * (1103515245 : Int64)) + (12345 : Int64)) - ((l3 * (1103515245 : Int64)) + (12345 : Int64)) / (2147483648 : Int64) * (2147483648 : Int64)) / (65536 : Int64)) - ((((l3 * (1103515245 : Int64)) + (12345 : Int64)) - ((l3 * (1103515245 : Int64)) + (12345 : Int64)) / (2147483648 : Int64) * (2147483648 : Int64)) / (65536 : Int64)) / (8 : Int64) * (8 : Int64))) _ _ hq6) (va_cwS 2 hts gX9_decades_X9_has rfl rfl rfl (by decide +kernel) ⟨Nat.le_of_ble_eq_true rfl, Nat.le_of_ble_eq_true rfl⟩) [] rfl rfl rfl rfl (Nat.le_of_ble_eq_true rfl) dX9_decades_113 (fun H locs hS => ?_)
      refine lv_if_eq (tgt := 138) hx hb dX9_decades_116 (by decide) (fun c7 => ?_) (fun c7 => ?_)
      · replace h := s_yes c7 h
        refine lv_aload_n hx hb dX9_decades_138 rfl (lv_at hl 2 rfl) ?_
        refine s_get (C := RX9) (T := TX9) (N := 19) hx hb hts inX9 hown hK hS 0 rfl rfl 6 (by decide) (hts (.fieldLink RX9 27 "InnTurnedModel" "hand" "[I") (List.mem_of_getElem? (i := 8) rfl)) rfl rfl dX9_decades_139 ?_
        refine lv_iload hx hb dX9_decades_142 (lv_at hl 0 rfl) ?_
        obtain ⟨q8, hq8, h⟩ := s_bind h
        refine r_calliS (r := q8.1) (As := [.ref a_hand, .int (Int64.toInt32 (((((l3 * (1103515245 : Int64)) + (12345 : Int64)) - ((l3 * (1103515245 : Int64)) + (12345 : Int64)) / (2147483648 : Int64) * (2147483648 : Int64)) / (65536 : Int64)) - ((((l3 * (1103515245 : Int64)) + (12345 : Int64)) - ((l3 * (1103515245 : Int64)) + (12345 : Int64)) / (2147483648 : Int64) * (2147483648 : Int64)) / (65536 : Int64)) / (8 : Int64) * (8 : Int64)))]) (rest := []) (wc := (wd_X9_goCome cI cB cZ a_hand 38 hand)) (w1 := (wd_X9_goCome cI cB cZ a_hand 38 q8.2)) (ws' := (wd_X9_decades cI cB cZ a_this a_all a_kept a_isKept a_refused a_hand a_outs a_order0 a_bestOrder a_tells a_bytes a_anew a_values all refused above below_ q8.2 bytesLong tokenAt tokenLong token value)) hx hb hml hown hts hK hA hl hS (c_X9_goCome l D cI cB cZ a_hand 38 hand (Int64.toInt32 (((((l3 * (1103515245 : Int64)) + (12345 : Int64)) - ((l3 * (1103515245 : Int64)) + (12345 : Int64)) / (2147483648 : Int64) * (2147483648 : Int64)) / (65536 : Int64)) - ((((l3 * (1103515245 : Int64)) + (12345 : Int64)) - ((l3 * (1103515245 : Int64)) + (12345 : Int64)) / (2147483648 : Int64) * (2147483648 : Int64)) / (65536 : Int64)) / (8 : Int64) * (8 : Int64))) _ _ hq8) (va_cwS 2 hts gX9_decades_X9_goCome rfl rfl rfl (by decide +kernel) ⟨Nat.le_of_ble_eq_true rfl, Nat.le_of_ble_eq_true rfl⟩) [3] rfl rfl rfl [.inl 0, .inl 1, .inl 2, .inr 0] rfl rfl rfl rfl (Nat.le_of_ble_eq_true rfl) dX9_decades_144 (fun H locs hS => ?_)
        refine lv_istore (lv' := [(7, .int q8.1), (6, .int (Int64.toInt32 (((((l3 * (1103515245 : Int64)) + (12345 : Int64)) - ((l3 * (1103515245 : Int64)) + (12345 : Int64)) / (2147483648 : Int64) * (2147483648 : Int64)) / (65536 : Int64)) - ((((l3 * (1103515245 : Int64)) + (12345 : Int64)) - ((l3 * (1103515245 : Int64)) + (12345 : Int64)) / (2147483648 : Int64) * (2147483648 : Int64)) / (65536 : Int64)) / (8 : Int64) * (8 : Int64)))), (3, .long (((l3 * (1103515245 : Int64)) + (12345 : Int64)) - ((l3 * (1103515245 : Int64)) + (12345 : Int64)) / (2147483648 : Int64) * (2147483648 : Int64))), (0, .ref a_this), (2, .int l2), (5, .int l5)]) hx hb dX9_decades_147 hl (by decide) rfl (fun ls hl => ?_)
        exact w_X9_decades_b149 C0 hend (f_X9_decades_b41 all fu) ih refused q8.2 l2 (((l3 * (1103515245 : Int64)) + (12345 : Int64)) - ((l3 * (1103515245 : Int64)) + (12345 : Int64)) / (2147483648 : Int64) * (2147483648 : Int64)) l5 _ _ _ h hS (lv_sub hl [3, 4, 2, 5] rfl)
      replace h := s_no c7 h
      refine lv_aload_n hx hb dX9_decades_119 rfl (lv_at hl 2 rfl) ?_
      refine s_get (C := RX9) (T := TX9) (N := 19) hx hb hts inX9 hown hK hS 0 rfl rfl 6 (by decide) (hts (.fieldLink RX9 27 "InnTurnedModel" "hand" "[I") (List.mem_of_getElem? (i := 8) rfl)) rfl rfl dX9_decades_120 ?_
      refine lv_bipush (v := (19 : Int32)) hx hb dX9_decades_123 (by decide) ?_
      refine lv_dup2_11 hx hb dX9_decades_125 rfl rfl ?_
      refine s_iald hx hb hK hS 3 rfl rfl (by decide) dX9_decades_126 ?_
      refine lv_iconst (v := (1 : Int32)) hx hb dX9_decades_127 (by decide) ?_
      refine lv_iload hx hb dX9_decades_128 (lv_at hl 0 rfl) ?_
      refine lv_ishl hx hb dX9_decades_130 ?_
      refine lv_iconst (v := (-1 : Int32)) hx hb dX9_decades_131 (by decide) ?_
      refine lv_ixor hx hb dX9_decades_132 ?_
      refine lv_iand hx hb dX9_decades_133 ?_
      refine s_iast (ws' := (wd_X9_decades cI cB cZ a_this a_all a_kept a_isKept a_refused a_hand a_outs a_order0 a_bestOrder a_tells a_bytes a_anew a_values all refused above below_ (upd hand (Int32.toNatClampNeg (19 : Int32)) ((hand (Int32.toNatClampNeg (19 : Int32))) &&& (((1 : Int32) <<< ((Int64.toInt32 (((((l3 * (1103515245 : Int64)) + (12345 : Int64)) - ((l3 * (1103515245 : Int64)) + (12345 : Int64)) / (2147483648 : Int64) * (2147483648 : Int64)) / (65536 : Int64)) - ((((l3 * (1103515245 : Int64)) + (12345 : Int64)) - ((l3 * (1103515245 : Int64)) + (12345 : Int64)) / (2147483648 : Int64) * (2147483648 : Int64)) / (65536 : Int64)) / (8 : Int64) * (8 : Int64))) &&& 31)) ^^^ (-1 : Int32)))) bytesLong tokenAt tokenLong token value)) hx hb hK hS 3 rfl rfl (by decide) rfl dX9_decades_134 (fun H locs hS => ?_)
      refine lv_goto (tgt := 149) hx hb dX9_decades_135 (by decide) ?_
      exact w_X9_decades_b149 C0 hend (f_X9_decades_b41 all fu) ih refused (upd hand (Int32.toNatClampNeg (19 : Int32)) ((hand (Int32.toNatClampNeg (19 : Int32))) &&& (((1 : Int32) <<< ((Int64.toInt32 (((((l3 * (1103515245 : Int64)) + (12345 : Int64)) - ((l3 * (1103515245 : Int64)) + (12345 : Int64)) / (2147483648 : Int64) * (2147483648 : Int64)) / (65536 : Int64)) - ((((l3 * (1103515245 : Int64)) + (12345 : Int64)) - ((l3 * (1103515245 : Int64)) + (12345 : Int64)) / (2147483648 : Int64) * (2147483648 : Int64)) / (65536 : Int64)) / (8 : Int64) * (8 : Int64))) &&& 31)) ^^^ (-1 : Int32)))) l2 (((l3 * (1103515245 : Int64)) + (12345 : Int64)) - ((l3 * (1103515245 : Int64)) + (12345 : Int64)) / (2147483648 : Int64) * (2147483648 : Int64)) l5 _ _ _ h hS (lv_sub hl [2, 3, 1, 4] rfl)
    replace h := s_yes c5 h
    refine lv_aload_n hx hb dX9_decades_82 rfl (lv_at hl 2 rfl) ?_
    refine s_get (C := RX9) (T := TX9) (N := 19) hx hb hts inX9 hown hK hS 0 rfl rfl 6 (by decide) (hts (.fieldLink RX9 27 "InnTurnedModel" "hand" "[I") (List.mem_of_getElem? (i := 8) rfl)) rfl rfl dX9_decades_83 ?_
    refine lv_bipush (v := (22 : Int32)) hx hb dX9_decades_86 (by decide) ?_
    refine lv_dup2_11 hx hb dX9_decades_88 rfl rfl ?_
    refine s_iald hx hb hK hS 3 rfl rfl (by decide) dX9_decades_89 ?_
    refine lv_iconst (v := (1 : Int32)) hx hb dX9_decades_90 (by decide) ?_
    refine lv_iadd hx hb dX9_decades_91 ?_
    refine s_iast (ws' := (wd_X9_decades cI cB cZ a_this a_all a_kept a_isKept a_refused a_hand a_outs a_order0 a_bestOrder a_tells a_bytes a_anew a_values all refused above below_ (upd hand (Int32.toNatClampNeg (22 : Int32)) ((hand (Int32.toNatClampNeg (22 : Int32))) + (1 : Int32))) bytesLong tokenAt tokenLong token value)) hx hb hK hS 3 rfl rfl (by decide) rfl dX9_decades_92 (fun H locs hS => ?_)
    refine lv_aload_n hx hb dX9_decades_93 rfl (lv_at hl 2 rfl) ?_
    refine s_get (C := RX9) (T := TX9) (N := 19) hx hb hts inX9 hown hK hS 0 rfl rfl 6 (by decide) (hts (.fieldLink RX9 27 "InnTurnedModel" "hand" "[I") (List.mem_of_getElem? (i := 8) rfl)) rfl rfl dX9_decades_94 ?_
    refine lv_bipush (v := (20 : Int32)) hx hb dX9_decades_97 (by decide) ?_
    refine lv_iconst (v := (0 : Int32)) hx hb dX9_decades_99 (by decide) ?_
    refine s_iast (ws' := (wd_X9_decades cI cB cZ a_this a_all a_kept a_isKept a_refused a_hand a_outs a_order0 a_bestOrder a_tells a_bytes a_anew a_values all refused above below_ (upd (upd hand (Int32.toNatClampNeg (22 : Int32)) ((hand (Int32.toNatClampNeg (22 : Int32))) + (1 : Int32))) (Int32.toNatClampNeg (20 : Int32)) (0 : Int32)) bytesLong tokenAt tokenLong token value)) hx hb hK hS 3 rfl rfl (by decide) rfl dX9_decades_100 (fun H locs hS => ?_)
    refine lv_goto (tgt := 149) hx hb dX9_decades_101 (by decide) ?_
    exact w_X9_decades_b149 C0 hend (f_X9_decades_b41 all fu) ih refused (upd (upd hand (Int32.toNatClampNeg (22 : Int32)) ((hand (Int32.toNatClampNeg (22 : Int32))) + (1 : Int32))) (Int32.toNatClampNeg (20 : Int32)) (0 : Int32)) l2 (((l3 * (1103515245 : Int64)) + (12345 : Int64)) - ((l3 * (1103515245 : Int64)) + (12345 : Int64)) / (2147483648 : Int64) * (2147483648 : Int64)) l5 _ _ _ h hS (lv_sub hl [2, 3, 1, 4] rfl)
def f_X9_decades  (all : (Nat → Int32)) (refused : (Nat → Int32)) (hand : (Nat → Int32)) (p1 : Int32) (p2 : Int32) : Option (Int32 × (Nat → Int32) × (Nat → Int32)) := ((f_X9_in (Int32.toInt64 p1) (0 : Int64) (999999 : Int64)).bind fun q9 => (if q9 = 0 then f_X9_decades_b24  all refused hand else ((f_X9_in (Int32.toInt64 p2) (0 : Int64) (60 : Int64)).bind fun q11 => (if q11 = 0 then f_X9_decades_b24  all refused hand else ((f_X9_layHand all hand).bind fun q13 => f_X9_decades_b41  all s_fuel refused q13 p2 (Int32.toInt64 p1) (0 : Int32))))))
set_option maxHeartbeats 4000000 in
set_option maxRecDepth 100000 in
theorem c_X9_decades (l : Launch) (D : va_G) (cI cB cZ : ClassId) (a_this : Nat) (a_all : Nat) (a_kept : Nat) (a_isKept : Nat) (a_refused : Nat) (a_hand : Nat) (a_outs : Nat) (a_order0 : Nat) (a_bestOrder : Nat) (a_tells : Nat) (a_bytes : Nat) (a_anew : Nat) (a_values : Nat) (all : (Nat → Int32)) (refused : (Nat → Int32)) (above : Int64) (below_ : Int64) (hand : (Nat → Int32)) (bytesLong : Int32) (tokenAt : Int32) (tokenLong : Int32) (token : Int32) (value : Int32) (p1 : Int32) (p2 : Int32) (rv : Int32 × (Nat → Int32) × (Nat → Int32)) (sz : Nat) (hf : f_X9_decades all refused hand p1 p2 = some rv) : Met l yX9_decades wsX9_decades rm_X9_decades (sPc D vwCl (s_tys cI cB cZ) [.ref a_this, .int p1, .int p2] (wd_X9_decades cI cB cZ a_this a_all a_kept a_isKept a_refused a_hand a_outs a_order0 a_bestOrder a_tells a_bytes a_anew a_values all refused above below_ hand bytesLong tokenAt tokenLong token value) sz) (sQi D vwCl (wd_X9_decades cI cB cZ a_this a_all a_kept a_isKept a_refused a_hand a_outs a_order0 a_bestOrder a_tells a_bytes a_anew a_values all refused above below_ hand bytesLong tokenAt tokenLong token value) (wd_X9_decades cI cB cZ a_this a_all a_kept a_isKept a_refused a_hand a_outs a_order0 a_bestOrder a_tells a_bytes a_anew a_values all rv.2.1 above below_ rv.2.2 bytesLong tokenAt tokenLong token value) sz rv.1) 0 0 (va_A (wd_X9_decades cI cB cZ a_this a_all a_kept a_isKept a_refused a_hand a_outs a_order0 a_bestOrder a_tells a_bytes a_anew a_values all refused above below_ hand bytesLong tokenAt tokenLong token value) sz) := by
  refine s_enter_n (cc := cX9_decades) (nL := 8) (r := rv.1) (by decide) rfl (Nat.le_of_ble_eq_true rfl) ?_
  intro p e s m args below meth c A Q C0 hend ls hl hS
  have h := hf
  clear hf
  replace hl : lv_has ls 8 [(0, .ref a_this), (1, .int p1), (2, .int p2)] := hl
  unfold f_X9_decades at h
  obtain ⟨hx, hb, hml, hown, hts, hK, hA⟩ := id C0
  have inX9 : ∀ w ∈ u_ws RX9 TX9 19, w ∈ wsX9_decades := inX9_X9_decades
  refine lv_iload_n hx hb dX9_decades_0 rfl (lv_at hl 1 rfl) ?_
  refine lv_i2l (v := (Int32.toInt64 p1)) hx hb dX9_decades_1 rfl ?_
  refine lv_lconst (v := (0 : Int64)) hx hb dX9_decades_2 (by decide) ?_
  refine lv_ldc2 (v := (999999 : Int64)) hx hb hown (hts (.constantLong RX9 202 (999999)) (List.mem_of_getElem? (i := 1) rfl)) dX9_decades_3 ?_
  obtain ⟨q9, hq9, h⟩ := s_bind h
  refine u_calliS (r := q9) (As := [.long (Int32.toInt64 p1), .long (0 : Int64), .long (999999 : Int64)]) (rest := []) (wc := ([] : va_W)) hx hb hml hown hts hK hA hl hS (c_X9_in l D cI cB cZ (Int32.toInt64 p1) (0 : Int64) (999999 : Int64) _ _ hq9) (va_cwS 3 hts gX9_decades_X9_in rfl rfl rfl (by decide +kernel) ⟨Nat.le_of_ble_eq_true rfl, Nat.le_of_ble_eq_true rfl⟩) [] rfl rfl rfl rfl (Nat.le_of_ble_eq_true rfl) dX9_decades_6 (fun H locs hS => ?_)
  refine lv_if_eq (tgt := 24) hx hb dX9_decades_9 (by decide) (fun c10 => ?_) (fun c10 => ?_)
  · replace h := s_yes c10 h
    exact w_X9_decades_b24 C0 hend  refused hand _ _ _ h hS (lv_sub hl [0] rfl)
  replace h := s_no c10 h
  refine lv_iload_n hx hb dX9_decades_12 rfl (lv_at hl 2 rfl) ?_
  refine lv_i2l (v := (Int32.toInt64 p2)) hx hb dX9_decades_13 rfl ?_
  refine lv_lconst (v := (0 : Int64)) hx hb dX9_decades_14 (by decide) ?_
  refine lv_ldc2 (v := (60 : Int64)) hx hb hown (hts (.constantLong RX9 173 (60)) (List.mem_of_getElem? (i := 2) rfl)) dX9_decades_15 ?_
  obtain ⟨q11, hq11, h⟩ := s_bind h
  refine u_calliS (r := q11) (As := [.long (Int32.toInt64 p2), .long (0 : Int64), .long (60 : Int64)]) (rest := []) (wc := ([] : va_W)) hx hb hml hown hts hK hA hl hS (c_X9_in l D cI cB cZ (Int32.toInt64 p2) (0 : Int64) (60 : Int64) _ _ hq11) (va_cwS 3 hts gX9_decades_X9_in rfl rfl rfl (by decide +kernel) ⟨Nat.le_of_ble_eq_true rfl, Nat.le_of_ble_eq_true rfl⟩) [] rfl rfl rfl rfl (Nat.le_of_ble_eq_true rfl) dX9_decades_18 (fun H locs hS => ?_)
  refine lv_if_ne (tgt := 31) hx hb dX9_decades_21 (by decide) (fun c12 => ?_) (fun c12 => ?_)
  · replace h := s_no c12 h
    refine lv_iload_n hx hb dX9_decades_31 rfl (lv_at hl 1 rfl) ?_
    refine lv_i2l (v := (Int32.toInt64 p1)) hx hb dX9_decades_32 rfl ?_
    refine lv_lstore_n (lv' := [(3, .long (Int32.toInt64 p1)), (0, .ref a_this), (1, .int p1), (2, .int p2)]) hx hb dX9_decades_33 rfl hl (by decide) rfl (fun ls hl => ?_)
    refine lv_aload_n hx hb dX9_decades_34 rfl (lv_at hl 1 rfl) ?_
    obtain ⟨q13, hq13, h⟩ := s_bind h
    refine r_callvV (As := []) (rest := []) (wc := (wd_X9_layHand cI cB cZ a_this a_all a_kept a_isKept a_refused a_hand a_outs a_order0 a_bestOrder a_tells a_bytes a_anew a_values all above below_ hand bytesLong tokenAt tokenLong token value)) (w1 := (wd_X9_layHand cI cB cZ a_this a_all a_kept a_isKept a_refused a_hand a_outs a_order0 a_bestOrder a_tells a_bytes a_anew a_values all above below_ q13 bytesLong tokenAt tokenLong token value)) (ws' := (wd_X9_decades cI cB cZ a_this a_all a_kept a_isKept a_refused a_hand a_outs a_order0 a_bestOrder a_tells a_bytes a_anew a_values all refused above below_ q13 bytesLong tokenAt tokenLong token value)) hx hb hml hown hts hK hA hl hS (c_X9_layHand l D cI cB cZ a_this a_all a_kept a_isKept a_refused a_hand a_outs a_order0 a_bestOrder a_tells a_bytes a_anew a_values all above below_ hand bytesLong tokenAt tokenLong token value _ _ hq13) (cwV 0 hts gX9_decades_X9_layHand rfl rfl rfl (by decide +kernel) ⟨Nat.le_of_ble_eq_true rfl, Nat.le_of_ble_eq_true rfl⟩) 0 rfl rfl [0, 1, 3] rfl rfl rfl [.inr 0, .inr 1, .inl 2, .inr 2] rfl rfl rfl rfl (Nat.le_of_ble_eq_true rfl) dX9_decades_35 (fun H locs hS => ?_)
    refine lv_iconst (v := (0 : Int32)) hx hb dX9_decades_38 (by decide) ?_
    refine lv_istore (lv' := [(5, .int (0 : Int32)), (3, .long (Int32.toInt64 p1)), (0, .ref a_this), (1, .int p1), (2, .int p2)]) hx hb dX9_decades_39 hl (by decide) rfl (fun ls hl => ?_)
    exact w_X9_decades_b41 C0 hend  s_fuel refused q13 p2 (Int32.toInt64 p1) (0 : Int32) _ _ _ h hS (lv_sub hl [2, 4, 1, 0] rfl)
  replace h := s_yes c12 h
  exact w_X9_decades_b24 C0 hend  refused hand _ _ _ h hS (lv_sub hl [0] rfl)

-- InnTurnedModel.type(I)I
def wd_X9_type (cI cB cZ : ClassId) (a_this : Nat) (a_all : Nat) (a_kept : Nat) (a_isKept : Nat) (a_refused : Nat) (a_hand : Nat) (a_outs : Nat) (a_order0 : Nat) (a_bestOrder : Nat) (a_tells : Nat) (a_bytes : Nat) (a_anew : Nat) (a_values : Nat)  (refused : (Nat → Int32)) (above : Int64) (below_ : Int64) (bytes : (Nat → Int32)) (bytesLong : Int32) (tokenAt : Int32) (tokenLong : Int32) (token : Int32) (value : Int32) : va_W := [(a_this, .inr (6, [.ref a_all, .ref a_kept, .ref a_isKept, .ref a_refused, .long above, .long below_, .ref a_hand, .ref a_outs, .ref a_order0, .ref a_bestOrder, .ref a_tells, .ref a_bytes, .int bytesLong, .int tokenAt, .int tokenLong, .int token, .int value, .ref a_anew, .ref a_values])), (a_refused, .inl (cI, 3, .inl refused)), (a_bytes, .inl (cI, 150, .inl bytes))]
abbrev rm_X9_type : Room := { frames := 1, cells := 0, slots := 0, locals := 25 }
set_option maxRecDepth 20000 in
theorem inX9_X9_type : ∀ w ∈ u_ws RX9 TX9 19, w ∈ wsX9_type := by decide +kernel
def f_X9_type   (refused : (Nat → Int32)) (bytes : (Nat → Int32)) (bytesLong : Int32) (p1 : Int32) : Option (Int32 × (Nat → Int32) × (Nat → Int32) × Int32) := ((f_X9_in (Int32.toInt64 p1) (0 : Int64) (127 : Int64)).bind fun q1 => (if q1 = 0 then ((f_X9_bad refused (-2 : Int32)).bind fun q6 => some (q6.1, q6.2, bytes, bytesLong)) else (if bytesLong = (150 : Int32) then ((f_X9_full refused).bind fun q5 => some (q5.1, q5.2, bytes, bytesLong)) else (if ¬ (bytesLong < 0 ∨ 150 ≤ (Int32.toNatClampNeg bytesLong)) then some ((bytesLong + (1 : Int32)), refused, (upd bytes (Int32.toNatClampNeg bytesLong) p1), (bytesLong + (1 : Int32))) else none))))
set_option maxHeartbeats 4000000 in
set_option maxRecDepth 100000 in
theorem c_X9_type (l : Launch) (D : va_G) (cI cB cZ : ClassId) (a_this : Nat) (a_all : Nat) (a_kept : Nat) (a_isKept : Nat) (a_refused : Nat) (a_hand : Nat) (a_outs : Nat) (a_order0 : Nat) (a_bestOrder : Nat) (a_tells : Nat) (a_bytes : Nat) (a_anew : Nat) (a_values : Nat) (refused : (Nat → Int32)) (above : Int64) (below_ : Int64) (bytes : (Nat → Int32)) (bytesLong : Int32) (tokenAt : Int32) (tokenLong : Int32) (token : Int32) (value : Int32) (p1 : Int32) (rv : Int32 × (Nat → Int32) × (Nat → Int32) × Int32) (sz : Nat) (hf : f_X9_type refused bytes bytesLong p1 = some rv) : Met l yX9_type wsX9_type rm_X9_type (sPc D vwCl (s_tys cI cB cZ) [.ref a_this, .int p1] (wd_X9_type cI cB cZ a_this a_all a_kept a_isKept a_refused a_hand a_outs a_order0 a_bestOrder a_tells a_bytes a_anew a_values refused above below_ bytes bytesLong tokenAt tokenLong token value) sz) (sQi D vwCl (wd_X9_type cI cB cZ a_this a_all a_kept a_isKept a_refused a_hand a_outs a_order0 a_bestOrder a_tells a_bytes a_anew a_values refused above below_ bytes bytesLong tokenAt tokenLong token value) (wd_X9_type cI cB cZ a_this a_all a_kept a_isKept a_refused a_hand a_outs a_order0 a_bestOrder a_tells a_bytes a_anew a_values rv.2.1 above below_ rv.2.2.1 rv.2.2.2 tokenAt tokenLong token value) sz rv.1) 0 0 (va_A (wd_X9_type cI cB cZ a_this a_all a_kept a_isKept a_refused a_hand a_outs a_order0 a_bestOrder a_tells a_bytes a_anew a_values refused above below_ bytes bytesLong tokenAt tokenLong token value) sz) := by
  refine s_enter_n (cc := cX9_type) (nL := 2) (r := rv.1) (by decide) rfl (Nat.le_of_ble_eq_true rfl) ?_
  intro p e s m args below meth c A Q C0 hend ls hl hS
  have h := hf
  clear hf
  replace hl : lv_has ls 2 [(0, .ref a_this), (1, .int p1)] := hl
  unfold f_X9_type at h
  obtain ⟨hx, hb, hml, hown, hts, hK, hA⟩ := id C0
  have inX9 : ∀ w ∈ u_ws RX9 TX9 19, w ∈ wsX9_type := inX9_X9_type
  refine lv_iload_n hx hb dX9_type_0 rfl (lv_at hl 1 rfl) ?_
  refine lv_i2l (v := (Int32.toInt64 p1)) hx hb dX9_type_1 rfl ?_
  refine lv_lconst (v := (0 : Int64)) hx hb dX9_type_2 (by decide) ?_
  refine lv_ldc2 (v := (127 : Int64)) hx hb hown (hts (.constantLong RX9 214 (127)) (List.mem_of_getElem? (i := 1) rfl)) dX9_type_3 ?_
  obtain ⟨q1, hq1, h⟩ := s_bind h
  refine u_calliS (r := q1) (As := [.long (Int32.toInt64 p1), .long (0 : Int64), .long (127 : Int64)]) (rest := []) (wc := ([] : va_W)) hx hb hml hown hts hK hA hl hS (c_X9_in l D cI cB cZ (Int32.toInt64 p1) (0 : Int64) (127 : Int64) _ _ hq1) (va_cwS 3 hts gX9_type_X9_in rfl rfl rfl (by decide +kernel) ⟨Nat.le_of_ble_eq_true rfl, Nat.le_of_ble_eq_true rfl⟩) [] rfl rfl rfl rfl (Nat.le_of_ble_eq_true rfl) dX9_type_6 (fun H locs hS => ?_)
  refine lv_if_ne (tgt := 19) hx hb dX9_type_9 (by decide) (fun c2 => ?_) (fun c2 => ?_)
  · replace h := s_no c2 h
    refine lv_aload_n hx hb dX9_type_19 rfl (lv_at hl 0 rfl) ?_
    refine s_get (C := RX9) (T := TX9) (N := 19) hx hb hts inX9 hown hK hS 0 rfl rfl 12 (by decide) (hts (.fieldLink RX9 216 "InnTurnedModel" "bytesLong" "I") (List.mem_of_getElem? (i := 2) rfl)) rfl rfl dX9_type_20 ?_
    refine lv_sipush (v := (150 : Int32)) hx hb dX9_type_23 (by decide) ?_
    refine lv_icmp_ne (tgt := 34) hx hb dX9_type_26 (by decide) (fun c3 => ?_) (fun c3 => ?_)
    · replace h := s_no c3 h
      refine lv_aload_n hx hb dX9_type_34 rfl (lv_at hl 0 rfl) ?_
      refine s_get (C := RX9) (T := TX9) (N := 19) hx hb hts inX9 hown hK hS 0 rfl rfl 11 (by decide) (hts (.fieldLink RX9 42 "InnTurnedModel" "bytes" "[I") (List.mem_of_getElem? (i := 3) rfl)) rfl rfl dX9_type_35 ?_
      refine lv_aload_n hx hb dX9_type_38 rfl (lv_at hl 0 rfl) ?_
      refine s_get (C := RX9) (T := TX9) (N := 19) hx hb hts inX9 hown hK hS 0 rfl rfl 12 (by decide) (hts (.fieldLink RX9 216 "InnTurnedModel" "bytesLong" "I") (List.mem_of_getElem? (i := 2) rfl)) rfl rfl dX9_type_39 ?_
      refine lv_iload_n hx hb dX9_type_42 rfl (lv_at hl 1 rfl) ?_
      obtain ⟨g4, h⟩ := s_guard h
      refine s_iast (ws' := (wd_X9_type cI cB cZ a_this a_all a_kept a_isKept a_refused a_hand a_outs a_order0 a_bestOrder a_tells a_bytes a_anew a_values refused above below_ (upd bytes (Int32.toNatClampNeg bytesLong) p1) bytesLong tokenAt tokenLong token value)) hx hb hK hS 2 rfl rfl g4 rfl dX9_type_43 (fun H locs hS => ?_)
      refine lv_aload_n hx hb dX9_type_44 rfl (lv_at hl 0 rfl) ?_
      refine lv_dup hx hb dX9_type_45 rfl ?_
      refine s_get (C := RX9) (T := TX9) (N := 19) hx hb hts inX9 hown hK hS 0 rfl rfl 12 (by decide) (hts (.fieldLink RX9 216 "InnTurnedModel" "bytesLong" "I") (List.mem_of_getElem? (i := 2) rfl)) rfl rfl dX9_type_46 ?_
      refine lv_iconst (v := (1 : Int32)) hx hb dX9_type_49 (by decide) ?_
      refine lv_iadd hx hb dX9_type_50 ?_
      refine s_put (ws' := (wd_X9_type cI cB cZ a_this a_all a_kept a_isKept a_refused a_hand a_outs a_order0 a_bestOrder a_tells a_bytes a_anew a_values refused above below_ (upd bytes (Int32.toNatClampNeg bytesLong) p1) (bytesLong + (1 : Int32)) tokenAt tokenLong token value)) (C := RX9) (T := TX9) (N := 19) hx hb hts inX9 tyX9 tyX9_ok nmX9 hown hK hS 0 rfl rfl 12 (by decide) (hts (.fieldLink RX9 216 "InnTurnedModel" "bytesLong" "I") (List.mem_of_getElem? (i := 2) rfl)) rfl rfl rfl rfl (Nat.le_of_ble_eq_true rfl) rfl dX9_type_51 (fun H locs hS => ?_)
      refine lv_aload_n hx hb dX9_type_54 rfl (lv_at hl 0 rfl) ?_
      refine s_get (C := RX9) (T := TX9) (N := 19) hx hb hts inX9 hown hK hS 0 rfl rfl 12 (by decide) (hts (.fieldLink RX9 216 "InnTurnedModel" "bytesLong" "I") (List.mem_of_getElem? (i := 2) rfl)) rfl rfl dX9_type_55 ?_
      obtain rfl := Option.some.inj h
      exact hend _ _ _ _ dX9_type_58 hS
    replace h := s_yes c3 h
    refine lv_aload_n hx hb dX9_type_29 rfl (lv_at hl 0 rfl) ?_
    obtain ⟨q5, hq5, h⟩ := s_bind h
    refine r_calliV (r := q5.1) (As := []) (rest := []) (wc := (wd_X9_full cI cB cZ a_this a_all a_kept a_isKept a_refused a_hand a_outs a_order0 a_bestOrder a_tells a_bytes a_anew a_values refused above below_ bytesLong tokenAt tokenLong token value)) (w1 := (wd_X9_full cI cB cZ a_this a_all a_kept a_isKept a_refused a_hand a_outs a_order0 a_bestOrder a_tells a_bytes a_anew a_values q5.2 above below_ bytesLong tokenAt tokenLong token value)) (ws' := (wd_X9_type cI cB cZ a_this a_all a_kept a_isKept a_refused a_hand a_outs a_order0 a_bestOrder a_tells a_bytes a_anew a_values q5.2 above below_ bytes bytesLong tokenAt tokenLong token value)) hx hb hml hown hts hK hA hl hS (c_X9_full l D cI cB cZ a_this a_all a_kept a_isKept a_refused a_hand a_outs a_order0 a_bestOrder a_tells a_bytes a_anew a_values refused above below_ bytesLong tokenAt tokenLong token value _ _ hq5) (cwV 0 hts gX9_type_X9_full rfl rfl rfl (by decide +kernel) ⟨Nat.le_of_ble_eq_true rfl, Nat.le_of_ble_eq_true rfl⟩) 0 rfl rfl [0, 1] rfl rfl rfl [.inr 0, .inr 1, .inl 2] rfl rfl rfl rfl (Nat.le_of_ble_eq_true rfl) dX9_type_30 (fun H locs hS => ?_)
    obtain rfl := Option.some.inj h
    exact hend _ _ _ _ dX9_type_33 hS
  replace h := s_yes c2 h
  refine lv_aload_n hx hb dX9_type_12 rfl (lv_at hl 0 rfl) ?_
  refine lv_bipush (v := (-2 : Int32)) hx hb dX9_type_13 (by decide) ?_
  obtain ⟨q6, hq6, h⟩ := s_bind h
  refine r_calliV (r := q6.1) (As := [.int (-2 : Int32)]) (rest := []) (wc := (wd_X9_bad cI cB cZ a_this a_all a_kept a_isKept a_refused a_hand a_outs a_order0 a_bestOrder a_tells a_bytes a_anew a_values refused above below_ bytesLong tokenAt tokenLong token value)) (w1 := (wd_X9_bad cI cB cZ a_this a_all a_kept a_isKept a_refused a_hand a_outs a_order0 a_bestOrder a_tells a_bytes a_anew a_values q6.2 above below_ bytesLong tokenAt tokenLong token value)) (ws' := (wd_X9_type cI cB cZ a_this a_all a_kept a_isKept a_refused a_hand a_outs a_order0 a_bestOrder a_tells a_bytes a_anew a_values q6.2 above below_ bytes bytesLong tokenAt tokenLong token value)) hx hb hml hown hts hK hA hl hS (c_X9_bad l D cI cB cZ a_this a_all a_kept a_isKept a_refused a_hand a_outs a_order0 a_bestOrder a_tells a_bytes a_anew a_values refused above below_ bytesLong tokenAt tokenLong token value (-2 : Int32) _ _ hq6) (cwV 1 hts gX9_type_X9_bad rfl rfl rfl (by decide +kernel) ⟨Nat.le_of_ble_eq_true rfl, Nat.le_of_ble_eq_true rfl⟩) 0 rfl rfl [0, 1] rfl rfl rfl [.inr 0, .inr 1, .inl 2] rfl rfl rfl rfl (Nat.le_of_ble_eq_true rfl) dX9_type_15 (fun H locs hS => ?_)
  obtain rfl := Option.some.inj h
  exact hend _ _ _ _ dX9_type_18 hS

-- InnTurnedModel.clear()I
def wd_X9_clear (cI cB cZ : ClassId) (a_this : Nat) (a_all : Nat) (a_kept : Nat) (a_isKept : Nat) (a_refused : Nat) (a_hand : Nat) (a_outs : Nat) (a_order0 : Nat) (a_bestOrder : Nat) (a_tells : Nat) (a_bytes : Nat) (a_anew : Nat) (a_values : Nat)  (above : Int64) (below_ : Int64) (bytesLong : Int32) (tokenAt : Int32) (tokenLong : Int32) (token : Int32) (value : Int32) : va_W := [(a_this, .inr (6, [.ref a_all, .ref a_kept, .ref a_isKept, .ref a_refused, .long above, .long below_, .ref a_hand, .ref a_outs, .ref a_order0, .ref a_bestOrder, .ref a_tells, .ref a_bytes, .int bytesLong, .int tokenAt, .int tokenLong, .int token, .int value, .ref a_anew, .ref a_values]))]
abbrev rm_X9_clear : Room := { frames := 0, cells := 0, slots := 0, locals := 0 }
set_option maxRecDepth 20000 in
theorem inX9_X9_clear : ∀ w ∈ u_ws RX9 TX9 19, w ∈ wsX9_clear := by decide +kernel
def f_X9_clear   (bytesLong : Int32) : Option (Int32 × Int32) := some (bytesLong, (0 : Int32))
set_option maxHeartbeats 4000000 in
set_option maxRecDepth 100000 in
theorem c_X9_clear (l : Launch) (D : va_G) (cI cB cZ : ClassId) (a_this : Nat) (a_all : Nat) (a_kept : Nat) (a_isKept : Nat) (a_refused : Nat) (a_hand : Nat) (a_outs : Nat) (a_order0 : Nat) (a_bestOrder : Nat) (a_tells : Nat) (a_bytes : Nat) (a_anew : Nat) (a_values : Nat) (above : Int64) (below_ : Int64) (bytesLong : Int32) (tokenAt : Int32) (tokenLong : Int32) (token : Int32) (value : Int32) (rv : Int32 × Int32) (sz : Nat) (hf : f_X9_clear bytesLong = some rv) : Met l yX9_clear wsX9_clear rm_X9_clear (sPc D vwCl (s_tys cI cB cZ) [.ref a_this] (wd_X9_clear cI cB cZ a_this a_all a_kept a_isKept a_refused a_hand a_outs a_order0 a_bestOrder a_tells a_bytes a_anew a_values above below_ bytesLong tokenAt tokenLong token value) sz) (sQi D vwCl (wd_X9_clear cI cB cZ a_this a_all a_kept a_isKept a_refused a_hand a_outs a_order0 a_bestOrder a_tells a_bytes a_anew a_values above below_ bytesLong tokenAt tokenLong token value) (wd_X9_clear cI cB cZ a_this a_all a_kept a_isKept a_refused a_hand a_outs a_order0 a_bestOrder a_tells a_bytes a_anew a_values above below_ rv.2 tokenAt tokenLong token value) sz rv.1) 0 0 (va_A (wd_X9_clear cI cB cZ a_this a_all a_kept a_isKept a_refused a_hand a_outs a_order0 a_bestOrder a_tells a_bytes a_anew a_values above below_ bytesLong tokenAt tokenLong token value) sz) := by
  refine s_enter_n (cc := cX9_clear) (nL := 2) (r := rv.1) (by decide) rfl (Nat.le_of_ble_eq_true rfl) ?_
  intro p e s m args below meth c A Q C0 hend ls hl hS
  have h := hf
  clear hf
  replace hl : lv_has ls 2 [(0, .ref a_this)] := hl
  unfold f_X9_clear at h
  obtain ⟨hx, hb, hml, hown, hts, hK, hA⟩ := id C0
  have inX9 : ∀ w ∈ u_ws RX9 TX9 19, w ∈ wsX9_clear := inX9_X9_clear
  refine lv_aload_n hx hb dX9_clear_0 rfl (lv_at hl 0 rfl) ?_
  refine s_get (C := RX9) (T := TX9) (N := 19) hx hb hts inX9 hown hK hS 0 rfl rfl 12 (by decide) (hts (.fieldLink RX9 216 "InnTurnedModel" "bytesLong" "I") (List.mem_of_getElem? (i := 1) rfl)) rfl rfl dX9_clear_1 ?_
  refine lv_istore_n (lv' := [(1, .int bytesLong), (0, .ref a_this)]) hx hb dX9_clear_4 rfl hl (by decide) rfl (fun ls hl => ?_)
  refine lv_aload_n hx hb dX9_clear_5 rfl (lv_at hl 1 rfl) ?_
  refine lv_iconst (v := (0 : Int32)) hx hb dX9_clear_6 (by decide) ?_
  refine s_put (ws' := (wd_X9_clear cI cB cZ a_this a_all a_kept a_isKept a_refused a_hand a_outs a_order0 a_bestOrder a_tells a_bytes a_anew a_values above below_ (0 : Int32) tokenAt tokenLong token value)) (C := RX9) (T := TX9) (N := 19) hx hb hts inX9 tyX9 tyX9_ok nmX9 hown hK hS 0 rfl rfl 12 (by decide) (hts (.fieldLink RX9 216 "InnTurnedModel" "bytesLong" "I") (List.mem_of_getElem? (i := 1) rfl)) rfl rfl rfl rfl (Nat.le_of_ble_eq_true rfl) rfl dX9_clear_7 (fun H locs hS => ?_)
  refine lv_iload_n hx hb dX9_clear_10 rfl (lv_at hl 0 rfl) ?_
  obtain rfl := Option.some.inj h
  exact hend _ _ _ _ dX9_clear_11 hS

-- InnTurnedModel.isSmall(I)Z
abbrev rm_X9_isSmall : Room := { frames := 1, cells := 0, slots := 0, locals := 25 }
def f_X9_isSmall    (p1 : Int32) : Option (Int32) := ((f_X9_in (Int32.toInt64 p1) (97 : Int64) (122 : Int64)).bind fun q1 => (if q1 = 0 ∨ q1 = 1 then some (q1) else none))
set_option maxHeartbeats 4000000 in
set_option maxRecDepth 100000 in
theorem c_X9_isSmall (l : Launch) (D : va_G) (cI cB cZ : ClassId) (p1 : Int32) (rv : Int32) (sz : Nat) (hf : f_X9_isSmall p1 = some rv) : Met l yX9_isSmall wsX9_isSmall rm_X9_isSmall (sPc D vwCl (s_tys cI cB cZ) [.int p1] ([] : va_W) sz) (sQi D vwCl ([] : va_W) ([] : va_W) sz rv) 0 0 (va_A ([] : va_W) sz) := by
  refine s_enter_z (cc := cX9_isSmall) (nL := 1) (r := rv) (by decide) rfl (Nat.le_of_ble_eq_true rfl) ?_
  intro p e s m args below meth c A Q C0 hend ls hl hS
  have h := hf
  clear hf
  replace hl : lv_has ls 1 [(0, .int p1)] := hl
  unfold f_X9_isSmall at h
  obtain ⟨hx, hb, hml, hown, hts, hK, hA⟩ := id C0
  refine lv_iload_n hx hb dX9_isSmall_0 rfl (lv_at hl 0 rfl) ?_
  refine lv_i2l (v := (Int32.toInt64 p1)) hx hb dX9_isSmall_1 rfl ?_
  refine lv_ldc2 (v := (97 : Int64)) hx hb hown (hts (.constantLong RX9 220 (97)) (List.mem_of_getElem? (i := 1) rfl)) dX9_isSmall_2 ?_
  refine lv_ldc2 (v := (122 : Int64)) hx hb hown (hts (.constantLong RX9 222 (122)) (List.mem_of_getElem? (i := 2) rfl)) dX9_isSmall_5 ?_
  obtain ⟨q1, hq1, h⟩ := s_bind h
  refine u_calliS (r := q1) (As := [.long (Int32.toInt64 p1), .long (97 : Int64), .long (122 : Int64)]) (rest := []) (wc := ([] : va_W)) hx hb hml hown hts hK hA hl hS (c_X9_in l D cI cB cZ (Int32.toInt64 p1) (97 : Int64) (122 : Int64) _ _ hq1) (va_cwS 3 hts gX9_isSmall_X9_in rfl rfl rfl (by decide +kernel) ⟨Nat.le_of_ble_eq_true rfl, Nat.le_of_ble_eq_true rfl⟩) [] rfl rfl rfl rfl (Nat.le_of_ble_eq_true rfl) dX9_isSmall_8 (fun H locs hS => ?_)
  obtain ⟨g2, h⟩ := s_guard h
  obtain rfl := Option.some.inj h
  exact hend _ _ _ _ dX9_isSmall_11 g2 hS

-- InnTurnedModel.isFigure(I)Z
abbrev rm_X9_isFigure : Room := { frames := 1, cells := 0, slots := 0, locals := 25 }
def f_X9_isFigure    (p1 : Int32) : Option (Int32) := ((f_X9_in (Int32.toInt64 p1) (48 : Int64) (57 : Int64)).bind fun q1 => (if q1 = 0 ∨ q1 = 1 then some (q1) else none))
set_option maxHeartbeats 4000000 in
set_option maxRecDepth 100000 in
theorem c_X9_isFigure (l : Launch) (D : va_G) (cI cB cZ : ClassId) (p1 : Int32) (rv : Int32) (sz : Nat) (hf : f_X9_isFigure p1 = some rv) : Met l yX9_isFigure wsX9_isFigure rm_X9_isFigure (sPc D vwCl (s_tys cI cB cZ) [.int p1] ([] : va_W) sz) (sQi D vwCl ([] : va_W) ([] : va_W) sz rv) 0 0 (va_A ([] : va_W) sz) := by
  refine s_enter_z (cc := cX9_isFigure) (nL := 1) (r := rv) (by decide) rfl (Nat.le_of_ble_eq_true rfl) ?_
  intro p e s m args below meth c A Q C0 hend ls hl hS
  have h := hf
  clear hf
  replace hl : lv_has ls 1 [(0, .int p1)] := hl
  unfold f_X9_isFigure at h
  obtain ⟨hx, hb, hml, hown, hts, hK, hA⟩ := id C0
  refine lv_iload_n hx hb dX9_isFigure_0 rfl (lv_at hl 0 rfl) ?_
  refine lv_i2l (v := (Int32.toInt64 p1)) hx hb dX9_isFigure_1 rfl ?_
  refine lv_ldc2 (v := (48 : Int64)) hx hb hown (hts (.constantLong RX9 224 (48)) (List.mem_of_getElem? (i := 1) rfl)) dX9_isFigure_2 ?_
  refine lv_ldc2 (v := (57 : Int64)) hx hb hown (hts (.constantLong RX9 226 (57)) (List.mem_of_getElem? (i := 2) rfl)) dX9_isFigure_5 ?_
  obtain ⟨q1, hq1, h⟩ := s_bind h
  refine u_calliS (r := q1) (As := [.long (Int32.toInt64 p1), .long (48 : Int64), .long (57 : Int64)]) (rest := []) (wc := ([] : va_W)) hx hb hml hown hts hK hA hl hS (c_X9_in l D cI cB cZ (Int32.toInt64 p1) (48 : Int64) (57 : Int64) _ _ hq1) (va_cwS 3 hts gX9_isFigure_X9_in rfl rfl rfl (by decide +kernel) ⟨Nat.le_of_ble_eq_true rfl, Nat.le_of_ble_eq_true rfl⟩) [] rfl rfl rfl rfl (Nat.le_of_ble_eq_true rfl) dX9_isFigure_8 (fun H locs hS => ?_)
  obtain ⟨g2, h⟩ := s_guard h
  obtain rfl := Option.some.inj h
  exact hend _ _ _ _ dX9_isFigure_11 g2 hS

-- InnTurnedModel.lookAt(I)V
def wd_X9_lookAt (cI cB cZ : ClassId) (a_this : Nat) (a_all : Nat) (a_kept : Nat) (a_isKept : Nat) (a_refused : Nat) (a_hand : Nat) (a_outs : Nat) (a_order0 : Nat) (a_bestOrder : Nat) (a_tells : Nat) (a_bytes : Nat) (a_anew : Nat) (a_values : Nat)  (above : Int64) (below_ : Int64) (bytes : (Nat → Int32)) (bytesLong : Int32) (tokenAt : Int32) (tokenLong : Int32) (token : Int32) (value : Int32) : va_W := [(a_this, .inr (6, [.ref a_all, .ref a_kept, .ref a_isKept, .ref a_refused, .long above, .long below_, .ref a_hand, .ref a_outs, .ref a_order0, .ref a_bestOrder, .ref a_tells, .ref a_bytes, .int bytesLong, .int tokenAt, .int tokenLong, .int token, .int value, .ref a_anew, .ref a_values])), (a_bytes, .inl (cI, 150, .inl bytes))]
abbrev rm_X9_lookAt : Room := { frames := 2, cells := 0, slots := 0, locals := 45 }
set_option maxRecDepth 20000 in
theorem inX9_X9_lookAt : ∀ w ∈ u_ws RX9 TX9 19, w ∈ wsX9_lookAt := by decide +kernel
def f_X9_lookAt_b299  (bytes : (Nat → Int32)) (bytesLong : Int32) (tokenAt : Int32) (tokenLong : Int32) (token : Int32) (value : Int32) (t0 : Int32) : Option (Int32 × Int32 × Int32 × Int32) := some (tokenAt, tokenLong, t0, value)
set_option maxHeartbeats 4000000 in
set_option maxRecDepth 100000 in
theorem w_X9_lookAt_b299 {p : Program} {l : Launch} {e : Env} {s : State} {m : MethodId} {args : Array Value} {below : List Frame} {meth : Method} {c : Code} {A : Nat → Prop} {Q : State → Prop} {D : va_G} {cI cB cZ : ClassId} {a_this a_all a_kept a_isKept a_refused a_hand a_outs a_order0 a_bestOrder a_tells a_bytes a_anew a_values : Nat} {above : Int64} {below_ : Int64} {bytes : (Nat → Int32)} {bytesLong : Int32} (C0 : Cx p s m args c cX9_lookAt 5 RX9 wsX9_lookAt D (s_tys cI cB cZ) A) {rv : Int32 × Int32 × Int32 × Int32} (hend : ∀ (pc : Nat) (H : Heap) (locs : List Loc) (ls : Array Slot), decode cX9_lookAt pc = .ok (.return_, 1) → sS D vwCl A s.heap (wd_X9_lookAt cI cB cZ a_this a_all a_kept a_isKept a_refused a_hand a_outs a_order0 a_bestOrder a_tells a_bytes a_anew a_values above below_ bytes bytesLong rv.1 rv.2.1 rv.2.2.1 rv.2.2.2) H locs → W p l e rm_X9_lookAt s m args below meth c H locs 0 0 Q (F0 m pc ls [])) : ∀ (tokenAt : Int32) (tokenLong : Int32) (token : Int32) (value : Int32) (t0 : Int32) (H : Heap) (locs : List Loc) (ls : Array Slot), f_X9_lookAt_b299 bytes bytesLong tokenAt tokenLong token value t0 = some rv → sS D vwCl A s.heap (wd_X9_lookAt cI cB cZ a_this a_all a_kept a_isKept a_refused a_hand a_outs a_order0 a_bestOrder a_tells a_bytes a_anew a_values above below_ bytes bytesLong tokenAt tokenLong token value) H locs → lv_has ls 5 [] → W p l e rm_X9_lookAt s m args below meth c H locs 0 0 Q (F0 m 299 ls [.int t0, .ref a_this]) := by
  obtain ⟨hx, hb, hml, hown, hts, hK, hA⟩ := id C0
  have inX9 : ∀ w ∈ u_ws RX9 TX9 19, w ∈ wsX9_lookAt := inX9_X9_lookAt
  intro tokenAt tokenLong token value t0 H locs ls h hS hl
  unfold f_X9_lookAt_b299 at h
  refine s_put (ws' := (wd_X9_lookAt cI cB cZ a_this a_all a_kept a_isKept a_refused a_hand a_outs a_order0 a_bestOrder a_tells a_bytes a_anew a_values above below_ bytes bytesLong tokenAt tokenLong t0 value)) (C := RX9) (T := TX9) (N := 19) hx hb hts inX9 tyX9 tyX9_ok nmX9 hown hK hS 0 rfl rfl 15 (by decide) (hts (.fieldLink RX9 234 "InnTurnedModel" "token" "I") (List.mem_of_getElem? (i := 5) rfl)) rfl rfl rfl rfl (Nat.le_of_ble_eq_true rfl) rfl dX9_lookAt_299 (fun H locs hS => ?_)
  obtain rfl := Option.some.inj h
  exact hend _ _ _ _ dX9_lookAt_302 hS
def f_X9_lookAt_b295  (bytes : (Nat → Int32)) (bytesLong : Int32) (tokenAt : Int32) (tokenLong : Int32) (token : Int32) (value : Int32) : Option (Int32 × Int32 × Int32 × Int32) := f_X9_lookAt_b299  bytes bytesLong tokenAt tokenLong token value token
set_option maxHeartbeats 4000000 in
set_option maxRecDepth 100000 in
theorem w_X9_lookAt_b295 {p : Program} {l : Launch} {e : Env} {s : State} {m : MethodId} {args : Array Value} {below : List Frame} {meth : Method} {c : Code} {A : Nat → Prop} {Q : State → Prop} {D : va_G} {cI cB cZ : ClassId} {a_this a_all a_kept a_isKept a_refused a_hand a_outs a_order0 a_bestOrder a_tells a_bytes a_anew a_values : Nat} {above : Int64} {below_ : Int64} {bytes : (Nat → Int32)} {bytesLong : Int32} (C0 : Cx p s m args c cX9_lookAt 5 RX9 wsX9_lookAt D (s_tys cI cB cZ) A) {rv : Int32 × Int32 × Int32 × Int32} (hend : ∀ (pc : Nat) (H : Heap) (locs : List Loc) (ls : Array Slot), decode cX9_lookAt pc = .ok (.return_, 1) → sS D vwCl A s.heap (wd_X9_lookAt cI cB cZ a_this a_all a_kept a_isKept a_refused a_hand a_outs a_order0 a_bestOrder a_tells a_bytes a_anew a_values above below_ bytes bytesLong rv.1 rv.2.1 rv.2.2.1 rv.2.2.2) H locs → W p l e rm_X9_lookAt s m args below meth c H locs 0 0 Q (F0 m pc ls [])) : ∀ (tokenAt : Int32) (tokenLong : Int32) (token : Int32) (value : Int32) (H : Heap) (locs : List Loc) (ls : Array Slot), f_X9_lookAt_b295 bytes bytesLong tokenAt tokenLong token value = some rv → sS D vwCl A s.heap (wd_X9_lookAt cI cB cZ a_this a_all a_kept a_isKept a_refused a_hand a_outs a_order0 a_bestOrder a_tells a_bytes a_anew a_values above below_ bytes bytesLong tokenAt tokenLong token value) H locs → lv_has ls 5 [(0, .ref a_this)] → W p l e rm_X9_lookAt s m args below meth c H locs 0 0 Q (F0 m 295 ls [.ref a_this]) := by
  obtain ⟨hx, hb, hml, hown, hts, hK, hA⟩ := id C0
  have inX9 : ∀ w ∈ u_ws RX9 TX9 19, w ∈ wsX9_lookAt := inX9_X9_lookAt
  intro tokenAt tokenLong token value H locs ls h hS hl
  unfold f_X9_lookAt_b295 at h
  refine lv_aload_n hx hb dX9_lookAt_295 rfl (lv_at hl 0 rfl) ?_
  refine s_get (C := RX9) (T := TX9) (N := 19) hx hb hts inX9 hown hK hS 0 rfl rfl 15 (by decide) (hts (.fieldLink RX9 234 "InnTurnedModel" "token" "I") (List.mem_of_getElem? (i := 5) rfl)) rfl rfl dX9_lookAt_296 ?_
  exact w_X9_lookAt_b299 C0 hend  tokenAt tokenLong token value token _ _ _ h hS (lv_sub hl [] rfl)
def f_X9_lookAt_b274  (bytes : (Nat → Int32)) (bytesLong : Int32) (tokenAt : Int32) (tokenLong : Int32) (token : Int32) (value : Int32) : Option (Int32 × Int32 × Int32 × Int32) := (if token = (2 : Int32) then (if tokenLong ≤ (2 : Int32) then f_X9_lookAt_b295  bytes bytesLong tokenAt tokenLong token value else f_X9_lookAt_b299  bytes bytesLong tokenAt tokenLong token value (4 : Int32)) else f_X9_lookAt_b295  bytes bytesLong tokenAt tokenLong token value)
set_option maxHeartbeats 4000000 in
set_option maxRecDepth 100000 in
theorem w_X9_lookAt_b274 {p : Program} {l : Launch} {e : Env} {s : State} {m : MethodId} {args : Array Value} {below : List Frame} {meth : Method} {c : Code} {A : Nat → Prop} {Q : State → Prop} {D : va_G} {cI cB cZ : ClassId} {a_this a_all a_kept a_isKept a_refused a_hand a_outs a_order0 a_bestOrder a_tells a_bytes a_anew a_values : Nat} {above : Int64} {below_ : Int64} {bytes : (Nat → Int32)} {bytesLong : Int32} (C0 : Cx p s m args c cX9_lookAt 5 RX9 wsX9_lookAt D (s_tys cI cB cZ) A) {rv : Int32 × Int32 × Int32 × Int32} (hend : ∀ (pc : Nat) (H : Heap) (locs : List Loc) (ls : Array Slot), decode cX9_lookAt pc = .ok (.return_, 1) → sS D vwCl A s.heap (wd_X9_lookAt cI cB cZ a_this a_all a_kept a_isKept a_refused a_hand a_outs a_order0 a_bestOrder a_tells a_bytes a_anew a_values above below_ bytes bytesLong rv.1 rv.2.1 rv.2.2.1 rv.2.2.2) H locs → W p l e rm_X9_lookAt s m args below meth c H locs 0 0 Q (F0 m pc ls [])) : ∀ (tokenAt : Int32) (tokenLong : Int32) (token : Int32) (value : Int32) (H : Heap) (locs : List Loc) (ls : Array Slot), f_X9_lookAt_b274 bytes bytesLong tokenAt tokenLong token value = some rv → sS D vwCl A s.heap (wd_X9_lookAt cI cB cZ a_this a_all a_kept a_isKept a_refused a_hand a_outs a_order0 a_bestOrder a_tells a_bytes a_anew a_values above below_ bytes bytesLong tokenAt tokenLong token value) H locs → lv_has ls 5 [(0, .ref a_this)] → W p l e rm_X9_lookAt s m args below meth c H locs 0 0 Q (F0 m 274 ls []) := by
  obtain ⟨hx, hb, hml, hown, hts, hK, hA⟩ := id C0
  have inX9 : ∀ w ∈ u_ws RX9 TX9 19, w ∈ wsX9_lookAt := inX9_X9_lookAt
  intro tokenAt tokenLong token value H locs ls h hS hl
  unfold f_X9_lookAt_b274 at h
  refine lv_aload_n hx hb dX9_lookAt_274 rfl (lv_at hl 0 rfl) ?_
  refine lv_aload_n hx hb dX9_lookAt_275 rfl (lv_at hl 0 rfl) ?_
  refine s_get (C := RX9) (T := TX9) (N := 19) hx hb hts inX9 hown hK hS 0 rfl rfl 15 (by decide) (hts (.fieldLink RX9 234 "InnTurnedModel" "token" "I") (List.mem_of_getElem? (i := 5) rfl)) rfl rfl dX9_lookAt_276 ?_
  refine lv_iconst (v := (2 : Int32)) hx hb dX9_lookAt_279 (by decide) ?_
  refine lv_icmp_ne (tgt := 295) hx hb dX9_lookAt_280 (by decide) (fun c1 => ?_) (fun c1 => ?_)
  · replace h := s_no c1 h
    exact w_X9_lookAt_b295 C0 hend  tokenAt tokenLong token value _ _ _ h hS (lv_sub hl [0] rfl)
  replace h := s_yes c1 h
  refine lv_aload_n hx hb dX9_lookAt_283 rfl (lv_at hl 0 rfl) ?_
  refine s_get (C := RX9) (T := TX9) (N := 19) hx hb hts inX9 hown hK hS 0 rfl rfl 14 (by decide) (hts (.fieldLink RX9 231 "InnTurnedModel" "tokenLong" "I") (List.mem_of_getElem? (i := 4) rfl)) rfl rfl dX9_lookAt_284 ?_
  refine lv_iconst (v := (2 : Int32)) hx hb dX9_lookAt_287 (by decide) ?_
  refine lv_icmp_le (tgt := 295) hx hb dX9_lookAt_288 (by decide) (fun c2 => ?_) (fun c2 => ?_)
  · replace h := s_yes c2 h
    exact w_X9_lookAt_b295 C0 hend  tokenAt tokenLong token value _ _ _ h hS (lv_sub hl [0] rfl)
  replace h := s_no c2 h
  refine lv_iconst (v := (4 : Int32)) hx hb dX9_lookAt_291 (by decide) ?_
  refine lv_goto (tgt := 299) hx hb dX9_lookAt_292 (by decide) ?_
  exact w_X9_lookAt_b299 C0 hend  tokenAt tokenLong token value (4 : Int32) _ _ _ h hS (lv_sub hl [] rfl)
def f_X9_lookAt_b218  (bytes : (Nat → Int32)) (bytesLong : Int32) : Nat → Int32 → Int32 → Int32 → Int32 → Int32 → Option (Int32 × Int32 × Int32 × Int32)
  | 0, _, _, _, _, _ => none
  | fu + 1, tokenAt, tokenLong, token, value, l4 => (if tokenLong ≤ l4 then f_X9_lookAt_b274  bytes bytesLong tokenAt tokenLong token value else (if (2 : Int32) ≤ l4 then f_X9_lookAt_b274  bytes bytesLong tokenAt tokenLong token value else (if token = (2 : Int32) then (if ¬ ((tokenAt + l4) < 0 ∨ 150 ≤ (Int32.toNatClampNeg (tokenAt + l4))) then (f_X9_lookAt_b218 bytes bytesLong fu) tokenAt tokenLong token ((((10 : Int32) * value) + (bytes (Int32.toNatClampNeg (tokenAt + l4)))) - (48 : Int32)) (l4 + (1 : Int32)) else none) else f_X9_lookAt_b274  bytes bytesLong tokenAt tokenLong token value)))
set_option maxHeartbeats 4000000 in
set_option maxRecDepth 100000 in
theorem w_X9_lookAt_b218 {p : Program} {l : Launch} {e : Env} {s : State} {m : MethodId} {args : Array Value} {below : List Frame} {meth : Method} {c : Code} {A : Nat → Prop} {Q : State → Prop} {D : va_G} {cI cB cZ : ClassId} {a_this a_all a_kept a_isKept a_refused a_hand a_outs a_order0 a_bestOrder a_tells a_bytes a_anew a_values : Nat} {above : Int64} {below_ : Int64} {bytes : (Nat → Int32)} {bytesLong : Int32} (C0 : Cx p s m args c cX9_lookAt 5 RX9 wsX9_lookAt D (s_tys cI cB cZ) A) {rv : Int32 × Int32 × Int32 × Int32} (hend : ∀ (pc : Nat) (H : Heap) (locs : List Loc) (ls : Array Slot), decode cX9_lookAt pc = .ok (.return_, 1) → sS D vwCl A s.heap (wd_X9_lookAt cI cB cZ a_this a_all a_kept a_isKept a_refused a_hand a_outs a_order0 a_bestOrder a_tells a_bytes a_anew a_values above below_ bytes bytesLong rv.1 rv.2.1 rv.2.2.1 rv.2.2.2) H locs → W p l e rm_X9_lookAt s m args below meth c H locs 0 0 Q (F0 m pc ls [])) : ∀ (fu : Nat) (tokenAt : Int32) (tokenLong : Int32) (token : Int32) (value : Int32) (l4 : Int32) (H : Heap) (locs : List Loc) (ls : Array Slot), f_X9_lookAt_b218 bytes bytesLong fu tokenAt tokenLong token value l4 = some rv → sS D vwCl A s.heap (wd_X9_lookAt cI cB cZ a_this a_all a_kept a_isKept a_refused a_hand a_outs a_order0 a_bestOrder a_tells a_bytes a_anew a_values above below_ bytes bytesLong tokenAt tokenLong token value) H locs → lv_has ls 5 [(0, .ref a_this), (4, .int l4)] → W p l e rm_X9_lookAt s m args below meth c H locs 0 0 Q (F0 m 218 ls []) := by
  obtain ⟨hx, hb, hml, hown, hts, hK, hA⟩ := id C0
  have inX9 : ∀ w ∈ u_ws RX9 TX9 19, w ∈ wsX9_lookAt := inX9_X9_lookAt
  intro fu
  induction fu with
  | zero => intro tokenAt tokenLong token value l4 H locs ls h; cases h
  | succ fu ih =>
    intro tokenAt tokenLong token value l4 H locs ls h hS hl
    rw [f_X9_lookAt_b218] at h
    refine lv_iload hx hb dX9_lookAt_218 (lv_at hl 1 rfl) ?_
    refine lv_aload_n hx hb dX9_lookAt_220 rfl (lv_at hl 0 rfl) ?_
    refine s_get (C := RX9) (T := TX9) (N := 19) hx hb hts inX9 hown hK hS 0 rfl rfl 14 (by decide) (hts (.fieldLink RX9 231 "InnTurnedModel" "tokenLong" "I") (List.mem_of_getElem? (i := 4) rfl)) rfl rfl dX9_lookAt_221 ?_
    refine lv_icmp_ge (tgt := 274) hx hb dX9_lookAt_224 (by decide) (fun c3 => ?_) (fun c3 => ?_)
    · replace h := s_yes c3 h
      exact w_X9_lookAt_b274 C0 hend  tokenAt tokenLong token value _ _ _ h hS (lv_sub hl [0] rfl)
    replace h := s_no c3 h
    refine lv_iload hx hb dX9_lookAt_227 (lv_at hl 1 rfl) ?_
    refine lv_iconst (v := (2 : Int32)) hx hb dX9_lookAt_229 (by decide) ?_
    refine lv_icmp_ge (tgt := 274) hx hb dX9_lookAt_230 (by decide) (fun c4 => ?_) (fun c4 => ?_)
    · replace h := s_yes c4 h
      exact w_X9_lookAt_b274 C0 hend  tokenAt tokenLong token value _ _ _ h hS (lv_sub hl [0] rfl)
    replace h := s_no c4 h
    refine lv_aload_n hx hb dX9_lookAt_233 rfl (lv_at hl 0 rfl) ?_
    refine s_get (C := RX9) (T := TX9) (N := 19) hx hb hts inX9 hown hK hS 0 rfl rfl 15 (by decide) (hts (.fieldLink RX9 234 "InnTurnedModel" "token" "I") (List.mem_of_getElem? (i := 5) rfl)) rfl rfl dX9_lookAt_234 ?_
    refine lv_iconst (v := (2 : Int32)) hx hb dX9_lookAt_237 (by decide) ?_
    refine lv_icmp_ne (tgt := 274) hx hb dX9_lookAt_238 (by decide) (fun c5 => ?_) (fun c5 => ?_)
    · replace h := s_no c5 h
      exact w_X9_lookAt_b274 C0 hend  tokenAt tokenLong token value _ _ _ h hS (lv_sub hl [0] rfl)
    replace h := s_yes c5 h
    refine lv_aload_n hx hb dX9_lookAt_241 rfl (lv_at hl 0 rfl) ?_
    refine lv_bipush (v := (10 : Int32)) hx hb dX9_lookAt_242 (by decide) ?_
    refine lv_aload_n hx hb dX9_lookAt_244 rfl (lv_at hl 0 rfl) ?_
    refine s_get (C := RX9) (T := TX9) (N := 19) hx hb hts inX9 hown hK hS 0 rfl rfl 16 (by decide) (hts (.fieldLink RX9 237 "InnTurnedModel" "value" "I") (List.mem_of_getElem? (i := 6) rfl)) rfl rfl dX9_lookAt_245 ?_
    refine lv_imul hx hb dX9_lookAt_248 ?_
    refine lv_aload_n hx hb dX9_lookAt_249 rfl (lv_at hl 0 rfl) ?_
    refine s_get (C := RX9) (T := TX9) (N := 19) hx hb hts inX9 hown hK hS 0 rfl rfl 11 (by decide) (hts (.fieldLink RX9 42 "InnTurnedModel" "bytes" "[I") (List.mem_of_getElem? (i := 3) rfl)) rfl rfl dX9_lookAt_250 ?_
    refine lv_aload_n hx hb dX9_lookAt_253 rfl (lv_at hl 0 rfl) ?_
    refine s_get (C := RX9) (T := TX9) (N := 19) hx hb hts inX9 hown hK hS 0 rfl rfl 13 (by decide) (hts (.fieldLink RX9 228 "InnTurnedModel" "tokenAt" "I") (List.mem_of_getElem? (i := 1) rfl)) rfl rfl dX9_lookAt_254 ?_
    refine lv_iload hx hb dX9_lookAt_257 (lv_at hl 1 rfl) ?_
    refine lv_iadd hx hb dX9_lookAt_259 ?_
    obtain ⟨g6, h⟩ := s_guard h
    refine s_iald hx hb hK hS 1 rfl rfl g6 dX9_lookAt_260 ?_
    refine lv_iadd hx hb dX9_lookAt_261 ?_
    refine lv_bipush (v := (48 : Int32)) hx hb dX9_lookAt_262 (by decide) ?_
    refine lv_isub hx hb dX9_lookAt_264 ?_
    refine s_put (ws' := (wd_X9_lookAt cI cB cZ a_this a_all a_kept a_isKept a_refused a_hand a_outs a_order0 a_bestOrder a_tells a_bytes a_anew a_values above below_ bytes bytesLong tokenAt tokenLong token ((((10 : Int32) * value) + (bytes (Int32.toNatClampNeg (tokenAt + l4)))) - (48 : Int32)))) (C := RX9) (T := TX9) (N := 19) hx hb hts inX9 tyX9 tyX9_ok nmX9 hown hK hS 0 rfl rfl 16 (by decide) (hts (.fieldLink RX9 237 "InnTurnedModel" "value" "I") (List.mem_of_getElem? (i := 6) rfl)) rfl rfl rfl rfl (Nat.le_of_ble_eq_true rfl) rfl dX9_lookAt_265 (fun H locs hS => ?_)
    refine lv_iinc (v := (l4 + (1 : Int32))) (lv' := [(4, .int (l4 + (1 : Int32))), (0, .ref a_this)]) hx hb dX9_lookAt_268 hl (k := 1) rfl rfl (by decide) rfl (fun ls hl => ?_)
    refine lv_goto (tgt := 218) hx hb dX9_lookAt_271 (by decide) ?_
    exact ih tokenAt tokenLong token ((((10 : Int32) * value) + (bytes (Int32.toNatClampNeg (tokenAt + l4)))) - (48 : Int32)) (l4 + (1 : Int32)) _ _ _ h hS (lv_sub hl [1, 0] rfl)
def f_X9_lookAt_b215  (bytes : (Nat → Int32)) (bytesLong : Int32) (tokenAt : Int32) (tokenLong : Int32) (token : Int32) (value : Int32) : Option (Int32 × Int32 × Int32 × Int32) := f_X9_lookAt_b218  bytes bytesLong s_fuel tokenAt tokenLong token value (0 : Int32)
set_option maxHeartbeats 4000000 in
set_option maxRecDepth 100000 in
theorem w_X9_lookAt_b215 {p : Program} {l : Launch} {e : Env} {s : State} {m : MethodId} {args : Array Value} {below : List Frame} {meth : Method} {c : Code} {A : Nat → Prop} {Q : State → Prop} {D : va_G} {cI cB cZ : ClassId} {a_this a_all a_kept a_isKept a_refused a_hand a_outs a_order0 a_bestOrder a_tells a_bytes a_anew a_values : Nat} {above : Int64} {below_ : Int64} {bytes : (Nat → Int32)} {bytesLong : Int32} (C0 : Cx p s m args c cX9_lookAt 5 RX9 wsX9_lookAt D (s_tys cI cB cZ) A) {rv : Int32 × Int32 × Int32 × Int32} (hend : ∀ (pc : Nat) (H : Heap) (locs : List Loc) (ls : Array Slot), decode cX9_lookAt pc = .ok (.return_, 1) → sS D vwCl A s.heap (wd_X9_lookAt cI cB cZ a_this a_all a_kept a_isKept a_refused a_hand a_outs a_order0 a_bestOrder a_tells a_bytes a_anew a_values above below_ bytes bytesLong rv.1 rv.2.1 rv.2.2.1 rv.2.2.2) H locs → W p l e rm_X9_lookAt s m args below meth c H locs 0 0 Q (F0 m pc ls [])) : ∀ (tokenAt : Int32) (tokenLong : Int32) (token : Int32) (value : Int32) (H : Heap) (locs : List Loc) (ls : Array Slot), f_X9_lookAt_b215 bytes bytesLong tokenAt tokenLong token value = some rv → sS D vwCl A s.heap (wd_X9_lookAt cI cB cZ a_this a_all a_kept a_isKept a_refused a_hand a_outs a_order0 a_bestOrder a_tells a_bytes a_anew a_values above below_ bytes bytesLong tokenAt tokenLong token value) H locs → lv_has ls 5 [(0, .ref a_this)] → W p l e rm_X9_lookAt s m args below meth c H locs 0 0 Q (F0 m 215 ls []) := by
  obtain ⟨hx, hb, hml, hown, hts, hK, hA⟩ := id C0
  have inX9 : ∀ w ∈ u_ws RX9 TX9 19, w ∈ wsX9_lookAt := inX9_X9_lookAt
  intro tokenAt tokenLong token value H locs ls h hS hl
  unfold f_X9_lookAt_b215 at h
  refine lv_iconst (v := (0 : Int32)) hx hb dX9_lookAt_215 (by decide) ?_
  refine lv_istore (lv' := [(4, .int (0 : Int32)), (0, .ref a_this)]) hx hb dX9_lookAt_216 hl (by decide) rfl (fun ls hl => ?_)
  exact w_X9_lookAt_b218 C0 hend  s_fuel tokenAt tokenLong token value (0 : Int32) _ _ _ h hS (lv_sub hl [1, 0] rfl)
def f_X9_lookAt_b208 (k_b136 : Int32 → Int32 → Int32 → Int32 → Int32 → Option (Int32 × Int32 × Int32 × Int32))  (bytes : (Nat → Int32)) (bytesLong : Int32) (tokenAt : Int32) (tokenLong : Int32) (token : Int32) (value : Int32) (l3 : Int32) (t0 : Int32) (t1 : Int32) : Option (Int32 × Int32 × Int32 × Int32) := k_b136 tokenAt (t1 + t0) token value l3
set_option maxHeartbeats 4000000 in
set_option maxRecDepth 100000 in
theorem w_X9_lookAt_b208 {p : Program} {l : Launch} {e : Env} {s : State} {m : MethodId} {args : Array Value} {below : List Frame} {meth : Method} {c : Code} {A : Nat → Prop} {Q : State → Prop} {D : va_G} {cI cB cZ : ClassId} {a_this a_all a_kept a_isKept a_refused a_hand a_outs a_order0 a_bestOrder a_tells a_bytes a_anew a_values : Nat} {above : Int64} {below_ : Int64} {bytes : (Nat → Int32)} {bytesLong : Int32} (C0 : Cx p s m args c cX9_lookAt 5 RX9 wsX9_lookAt D (s_tys cI cB cZ) A) {rv : Int32 × Int32 × Int32 × Int32} (hend : ∀ (pc : Nat) (H : Heap) (locs : List Loc) (ls : Array Slot), decode cX9_lookAt pc = .ok (.return_, 1) → sS D vwCl A s.heap (wd_X9_lookAt cI cB cZ a_this a_all a_kept a_isKept a_refused a_hand a_outs a_order0 a_bestOrder a_tells a_bytes a_anew a_values above below_ bytes bytesLong rv.1 rv.2.1 rv.2.2.1 rv.2.2.2) H locs → W p l e rm_X9_lookAt s m args below meth c H locs 0 0 Q (F0 m pc ls [])) (k_b136 : Int32 → Int32 → Int32 → Int32 → Int32 → Option (Int32 × Int32 × Int32 × Int32)) (hk_b136 : ∀ (tokenAt : Int32) (tokenLong : Int32) (token : Int32) (value : Int32) (l3 : Int32) (H : Heap) (locs : List Loc) (ls : Array Slot), k_b136 tokenAt tokenLong token value l3 = some rv → sS D vwCl A s.heap (wd_X9_lookAt cI cB cZ a_this a_all a_kept a_isKept a_refused a_hand a_outs a_order0 a_bestOrder a_tells a_bytes a_anew a_values above below_ bytes bytesLong tokenAt tokenLong token value) H locs → lv_has ls 5 [(0, .ref a_this), (3, .int l3)] → W p l e rm_X9_lookAt s m args below meth c H locs 0 0 Q (F0 m 136 ls [])) : ∀ (tokenAt : Int32) (tokenLong : Int32) (token : Int32) (value : Int32) (l3 : Int32) (t0 : Int32) (t1 : Int32) (H : Heap) (locs : List Loc) (ls : Array Slot), f_X9_lookAt_b208 k_b136 bytes bytesLong tokenAt tokenLong token value l3 t0 t1 = some rv → sS D vwCl A s.heap (wd_X9_lookAt cI cB cZ a_this a_all a_kept a_isKept a_refused a_hand a_outs a_order0 a_bestOrder a_tells a_bytes a_anew a_values above below_ bytes bytesLong tokenAt tokenLong token value) H locs → lv_has ls 5 [(0, .ref a_this), (3, .int l3)] → W p l e rm_X9_lookAt s m args below meth c H locs 0 0 Q (F0 m 208 ls [.int t0, .int t1, .ref a_this]) := by
  obtain ⟨hx, hb, hml, hown, hts, hK, hA⟩ := id C0
  have inX9 : ∀ w ∈ u_ws RX9 TX9 19, w ∈ wsX9_lookAt := inX9_X9_lookAt
  intro tokenAt tokenLong token value l3 t0 t1 H locs ls h hS hl
  unfold f_X9_lookAt_b208 at h
  refine lv_iadd hx hb dX9_lookAt_208 ?_
  refine s_put (ws' := (wd_X9_lookAt cI cB cZ a_this a_all a_kept a_isKept a_refused a_hand a_outs a_order0 a_bestOrder a_tells a_bytes a_anew a_values above below_ bytes bytesLong tokenAt (t1 + t0) token value)) (C := RX9) (T := TX9) (N := 19) hx hb hts inX9 tyX9 tyX9_ok nmX9 hown hK hS 0 rfl rfl 14 (by decide) (hts (.fieldLink RX9 231 "InnTurnedModel" "tokenLong" "I") (List.mem_of_getElem? (i := 4) rfl)) rfl rfl rfl rfl (Nat.le_of_ble_eq_true rfl) rfl dX9_lookAt_209 (fun H locs hS => ?_)
  refine lv_goto (tgt := 136) hx hb dX9_lookAt_212 (by decide) ?_
  exact hk_b136 tokenAt (t1 + t0) token value l3 _ _ _ h hS (lv_sub hl [0, 1] rfl)
def f_X9_lookAt_b193 (k_b136 : Int32 → Int32 → Int32 → Int32 → Int32 → Option (Int32 × Int32 × Int32 × Int32))  (bytes : (Nat → Int32)) (bytesLong : Int32) (tokenAt : Int32) (tokenLong : Int32) (token : Int32) (value : Int32) (t0 : Int32) : Option (Int32 × Int32 × Int32 × Int32) := (if t0 = 0 then f_X9_lookAt_b208 k_b136 bytes bytesLong tokenAt tokenLong token value t0 (0 : Int32) tokenLong else f_X9_lookAt_b208 k_b136 bytes bytesLong tokenAt tokenLong token value t0 (1 : Int32) tokenLong)
set_option maxHeartbeats 4000000 in
set_option maxRecDepth 100000 in
theorem w_X9_lookAt_b193 {p : Program} {l : Launch} {e : Env} {s : State} {m : MethodId} {args : Array Value} {below : List Frame} {meth : Method} {c : Code} {A : Nat → Prop} {Q : State → Prop} {D : va_G} {cI cB cZ : ClassId} {a_this a_all a_kept a_isKept a_refused a_hand a_outs a_order0 a_bestOrder a_tells a_bytes a_anew a_values : Nat} {above : Int64} {below_ : Int64} {bytes : (Nat → Int32)} {bytesLong : Int32} (C0 : Cx p s m args c cX9_lookAt 5 RX9 wsX9_lookAt D (s_tys cI cB cZ) A) {rv : Int32 × Int32 × Int32 × Int32} (hend : ∀ (pc : Nat) (H : Heap) (locs : List Loc) (ls : Array Slot), decode cX9_lookAt pc = .ok (.return_, 1) → sS D vwCl A s.heap (wd_X9_lookAt cI cB cZ a_this a_all a_kept a_isKept a_refused a_hand a_outs a_order0 a_bestOrder a_tells a_bytes a_anew a_values above below_ bytes bytesLong rv.1 rv.2.1 rv.2.2.1 rv.2.2.2) H locs → W p l e rm_X9_lookAt s m args below meth c H locs 0 0 Q (F0 m pc ls [])) (k_b136 : Int32 → Int32 → Int32 → Int32 → Int32 → Option (Int32 × Int32 × Int32 × Int32)) (hk_b136 : ∀ (tokenAt : Int32) (tokenLong : Int32) (token : Int32) (value : Int32) (l3 : Int32) (H : Heap) (locs : List Loc) (ls : Array Slot), k_b136 tokenAt tokenLong token value l3 = some rv → sS D vwCl A s.heap (wd_X9_lookAt cI cB cZ a_this a_all a_kept a_isKept a_refused a_hand a_outs a_order0 a_bestOrder a_tells a_bytes a_anew a_values above below_ bytes bytesLong tokenAt tokenLong token value) H locs → lv_has ls 5 [(0, .ref a_this), (3, .int l3)] → W p l e rm_X9_lookAt s m args below meth c H locs 0 0 Q (F0 m 136 ls [])) : ∀ (tokenAt : Int32) (tokenLong : Int32) (token : Int32) (value : Int32) (t0 : Int32) (H : Heap) (locs : List Loc) (ls : Array Slot), f_X9_lookAt_b193 k_b136 bytes bytesLong tokenAt tokenLong token value t0 = some rv → sS D vwCl A s.heap (wd_X9_lookAt cI cB cZ a_this a_all a_kept a_isKept a_refused a_hand a_outs a_order0 a_bestOrder a_tells a_bytes a_anew a_values above below_ bytes bytesLong tokenAt tokenLong token value) H locs → lv_has ls 5 [(0, .ref a_this)] → W p l e rm_X9_lookAt s m args below meth c H locs 0 0 Q (F0 m 193 ls [.int t0]) := by
  obtain ⟨hx, hb, hml, hown, hts, hK, hA⟩ := id C0
  have inX9 : ∀ w ∈ u_ws RX9 TX9 19, w ∈ wsX9_lookAt := inX9_X9_lookAt
  intro tokenAt tokenLong token value t0 H locs ls h hS hl
  unfold f_X9_lookAt_b193 at h
  refine lv_istore_n (lv' := [(3, .int t0), (0, .ref a_this)]) hx hb dX9_lookAt_193 rfl hl (by decide) rfl (fun ls hl => ?_)
  refine lv_aload_n hx hb dX9_lookAt_194 rfl (lv_at hl 1 rfl) ?_
  refine lv_dup hx hb dX9_lookAt_195 rfl ?_
  refine s_get (C := RX9) (T := TX9) (N := 19) hx hb hts inX9 hown hK hS 0 rfl rfl 14 (by decide) (hts (.fieldLink RX9 231 "InnTurnedModel" "tokenLong" "I") (List.mem_of_getElem? (i := 4) rfl)) rfl rfl dX9_lookAt_196 ?_
  refine lv_iload_n hx hb dX9_lookAt_199 rfl (lv_at hl 0 rfl) ?_
  refine lv_if_eq (tgt := 207) hx hb dX9_lookAt_200 (by decide) (fun c7 => ?_) (fun c7 => ?_)
  · replace h := s_yes c7 h
    refine lv_iconst (v := (0 : Int32)) hx hb dX9_lookAt_207 (by decide) ?_
    exact w_X9_lookAt_b208 C0 hend k_b136 hk_b136 tokenAt tokenLong token value t0 (0 : Int32) tokenLong _ _ _ h hS (lv_sub hl [1, 0] rfl)
  replace h := s_no c7 h
  refine lv_iconst (v := (1 : Int32)) hx hb dX9_lookAt_203 (by decide) ?_
  refine lv_goto (tgt := 208) hx hb dX9_lookAt_204 (by decide) ?_
  exact w_X9_lookAt_b208 C0 hend k_b136 hk_b136 tokenAt tokenLong token value t0 (1 : Int32) tokenLong _ _ _ h hS (lv_sub hl [1, 0] rfl)
def f_X9_lookAt_b136  (bytes : (Nat → Int32)) (bytesLong : Int32) : Nat → Int32 → Int32 → Int32 → Int32 → Int32 → Option (Int32 × Int32 × Int32 × Int32)
  | 0, _, _, _, _, _ => none
  | fu + 1, tokenAt, tokenLong, token, value, l3 => (if l3 = 0 then f_X9_lookAt_b215  bytes bytesLong tokenAt tokenLong token value else (if bytesLong ≤ (tokenAt + tokenLong) then f_X9_lookAt_b215  bytes bytesLong tokenAt tokenLong token value else (if ¬ ((tokenAt + tokenLong) < 0 ∨ 150 ≤ (Int32.toNatClampNeg (tokenAt + tokenLong))) then (if token = (1 : Int32) then ((f_X9_isSmall (bytes (Int32.toNatClampNeg (tokenAt + tokenLong)))).bind fun q13 => f_X9_lookAt_b193 (f_X9_lookAt_b136 bytes bytesLong fu) bytes bytesLong tokenAt tokenLong token value q13) else ((f_X9_isFigure (bytes (Int32.toNatClampNeg (tokenAt + tokenLong)))).bind fun q12 => f_X9_lookAt_b193 (f_X9_lookAt_b136 bytes bytesLong fu) bytes bytesLong tokenAt tokenLong token value q12)) else none)))
set_option maxHeartbeats 4000000 in
set_option maxRecDepth 100000 in
theorem w_X9_lookAt_b136 {p : Program} {l : Launch} {e : Env} {s : State} {m : MethodId} {args : Array Value} {below : List Frame} {meth : Method} {c : Code} {A : Nat → Prop} {Q : State → Prop} {D : va_G} {cI cB cZ : ClassId} {a_this a_all a_kept a_isKept a_refused a_hand a_outs a_order0 a_bestOrder a_tells a_bytes a_anew a_values : Nat} {above : Int64} {below_ : Int64} {bytes : (Nat → Int32)} {bytesLong : Int32} (C0 : Cx p s m args c cX9_lookAt 5 RX9 wsX9_lookAt D (s_tys cI cB cZ) A) {rv : Int32 × Int32 × Int32 × Int32} (hend : ∀ (pc : Nat) (H : Heap) (locs : List Loc) (ls : Array Slot), decode cX9_lookAt pc = .ok (.return_, 1) → sS D vwCl A s.heap (wd_X9_lookAt cI cB cZ a_this a_all a_kept a_isKept a_refused a_hand a_outs a_order0 a_bestOrder a_tells a_bytes a_anew a_values above below_ bytes bytesLong rv.1 rv.2.1 rv.2.2.1 rv.2.2.2) H locs → W p l e rm_X9_lookAt s m args below meth c H locs 0 0 Q (F0 m pc ls [])) : ∀ (fu : Nat) (tokenAt : Int32) (tokenLong : Int32) (token : Int32) (value : Int32) (l3 : Int32) (H : Heap) (locs : List Loc) (ls : Array Slot), f_X9_lookAt_b136 bytes bytesLong fu tokenAt tokenLong token value l3 = some rv → sS D vwCl A s.heap (wd_X9_lookAt cI cB cZ a_this a_all a_kept a_isKept a_refused a_hand a_outs a_order0 a_bestOrder a_tells a_bytes a_anew a_values above below_ bytes bytesLong tokenAt tokenLong token value) H locs → lv_has ls 5 [(0, .ref a_this), (3, .int l3)] → W p l e rm_X9_lookAt s m args below meth c H locs 0 0 Q (F0 m 136 ls []) := by
  obtain ⟨hx, hb, hml, hown, hts, hK, hA⟩ := id C0
  have inX9 : ∀ w ∈ u_ws RX9 TX9 19, w ∈ wsX9_lookAt := inX9_X9_lookAt
  intro fu
  induction fu with
  | zero => intro tokenAt tokenLong token value l3 H locs ls h; cases h
  | succ fu ih =>
    intro tokenAt tokenLong token value l3 H locs ls h hS hl
    rw [f_X9_lookAt_b136] at h
    refine lv_iload_n hx hb dX9_lookAt_136 rfl (lv_at hl 1 rfl) ?_
    refine lv_if_eq (tgt := 215) hx hb dX9_lookAt_137 (by decide) (fun c8 => ?_) (fun c8 => ?_)
    · replace h := s_yes c8 h
      exact w_X9_lookAt_b215 C0 hend  tokenAt tokenLong token value _ _ _ h hS (lv_sub hl [0] rfl)
    replace h := s_no c8 h
    refine lv_aload_n hx hb dX9_lookAt_140 rfl (lv_at hl 0 rfl) ?_
    refine s_get (C := RX9) (T := TX9) (N := 19) hx hb hts inX9 hown hK hS 0 rfl rfl 13 (by decide) (hts (.fieldLink RX9 228 "InnTurnedModel" "tokenAt" "I") (List.mem_of_getElem? (i := 1) rfl)) rfl rfl dX9_lookAt_141 ?_
    refine lv_aload_n hx hb dX9_lookAt_144 rfl (lv_at hl 0 rfl) ?_
    refine s_get (C := RX9) (T := TX9) (N := 19) hx hb hts inX9 hown hK hS 0 rfl rfl 14 (by decide) (hts (.fieldLink RX9 231 "InnTurnedModel" "tokenLong" "I") (List.mem_of_getElem? (i := 4) rfl)) rfl rfl dX9_lookAt_145 ?_
    refine lv_iadd hx hb dX9_lookAt_148 ?_
    refine lv_aload_n hx hb dX9_lookAt_149 rfl (lv_at hl 0 rfl) ?_
    refine s_get (C := RX9) (T := TX9) (N := 19) hx hb hts inX9 hown hK hS 0 rfl rfl 12 (by decide) (hts (.fieldLink RX9 216 "InnTurnedModel" "bytesLong" "I") (List.mem_of_getElem? (i := 2) rfl)) rfl rfl dX9_lookAt_150 ?_
    refine lv_icmp_ge (tgt := 215) hx hb dX9_lookAt_153 (by decide) (fun c9 => ?_) (fun c9 => ?_)
    · replace h := s_yes c9 h
      exact w_X9_lookAt_b215 C0 hend  tokenAt tokenLong token value _ _ _ h hS (lv_sub hl [0] rfl)
    replace h := s_no c9 h
    refine lv_aload_n hx hb dX9_lookAt_156 rfl (lv_at hl 0 rfl) ?_
    refine s_get (C := RX9) (T := TX9) (N := 19) hx hb hts inX9 hown hK hS 0 rfl rfl 11 (by decide) (hts (.fieldLink RX9 42 "InnTurnedModel" "bytes" "[I") (List.mem_of_getElem? (i := 3) rfl)) rfl rfl dX9_lookAt_157 ?_
    refine lv_aload_n hx hb dX9_lookAt_160 rfl (lv_at hl 0 rfl) ?_
    refine s_get (C := RX9) (T := TX9) (N := 19) hx hb hts inX9 hown hK hS 0 rfl rfl 13 (by decide) (hts (.fieldLink RX9 228 "InnTurnedModel" "tokenAt" "I") (List.mem_of_getElem? (i := 1) rfl)) rfl rfl dX9_lookAt_161 ?_
    refine lv_aload_n hx hb dX9_lookAt_164 rfl (lv_at hl 0 rfl) ?_
    refine s_get (C := RX9) (T := TX9) (N := 19) hx hb hts inX9 hown hK hS 0 rfl rfl 14 (by decide) (hts (.fieldLink RX9 231 "InnTurnedModel" "tokenLong" "I") (List.mem_of_getElem? (i := 4) rfl)) rfl rfl dX9_lookAt_165 ?_
    refine lv_iadd hx hb dX9_lookAt_168 ?_
    obtain ⟨g10, h⟩ := s_guard h
    refine s_iald hx hb hK hS 1 rfl rfl g10 dX9_lookAt_169 ?_
    refine lv_istore (lv' := [(4, .int (bytes (Int32.toNatClampNeg (tokenAt + tokenLong)))), (0, .ref a_this), (3, .int l3)]) hx hb dX9_lookAt_170 hl (by decide) rfl (fun ls hl => ?_)
    refine lv_aload_n hx hb dX9_lookAt_172 rfl (lv_at hl 1 rfl) ?_
    refine s_get (C := RX9) (T := TX9) (N := 19) hx hb hts inX9 hown hK hS 0 rfl rfl 15 (by decide) (hts (.fieldLink RX9 234 "InnTurnedModel" "token" "I") (List.mem_of_getElem? (i := 5) rfl)) rfl rfl dX9_lookAt_173 ?_
    refine lv_iconst (v := (1 : Int32)) hx hb dX9_lookAt_176 (by decide) ?_
    refine lv_icmp_ne (tgt := 188) hx hb dX9_lookAt_177 (by decide) (fun c11 => ?_) (fun c11 => ?_)
    · replace h := s_no c11 h
      refine lv_iload hx hb dX9_lookAt_188 (lv_at hl 0 rfl) ?_
      obtain ⟨q12, hq12, h⟩ := s_bind h
      refine u_calliS (r := q12) (As := [.int (bytes (Int32.toNatClampNeg (tokenAt + tokenLong)))]) (rest := []) (wc := ([] : va_W)) hx hb hml hown hts hK hA hl hS (c_X9_isFigure l D cI cB cZ (bytes (Int32.toNatClampNeg (tokenAt + tokenLong))) _ _ hq12) (va_cwS 1 hts gX9_lookAt_X9_isFigure rfl rfl rfl (by decide +kernel) ⟨Nat.le_of_ble_eq_true rfl, Nat.le_of_ble_eq_true rfl⟩) [] rfl rfl rfl rfl (Nat.le_of_ble_eq_true rfl) dX9_lookAt_190 (fun H locs hS => ?_)
      exact w_X9_lookAt_b193 C0 hend (f_X9_lookAt_b136 bytes bytesLong fu) ih tokenAt tokenLong token value q12 _ _ _ h hS (lv_sub hl [1] rfl)
    replace h := s_yes c11 h
    refine lv_iload hx hb dX9_lookAt_180 (lv_at hl 0 rfl) ?_
    obtain ⟨q13, hq13, h⟩ := s_bind h
    refine u_calliS (r := q13) (As := [.int (bytes (Int32.toNatClampNeg (tokenAt + tokenLong)))]) (rest := []) (wc := ([] : va_W)) hx hb hml hown hts hK hA hl hS (c_X9_isSmall l D cI cB cZ (bytes (Int32.toNatClampNeg (tokenAt + tokenLong))) _ _ hq13) (va_cwS 1 hts gX9_lookAt_X9_isSmall rfl rfl rfl (by decide +kernel) ⟨Nat.le_of_ble_eq_true rfl, Nat.le_of_ble_eq_true rfl⟩) [] rfl rfl rfl rfl (Nat.le_of_ble_eq_true rfl) dX9_lookAt_182 (fun H locs hS => ?_)
    refine lv_goto (tgt := 193) hx hb dX9_lookAt_185 (by decide) ?_
    exact w_X9_lookAt_b193 C0 hend (f_X9_lookAt_b136 bytes bytesLong fu) ih tokenAt tokenLong token value q13 _ _ _ h hS (lv_sub hl [1] rfl)
def f_X9_lookAt_b135  (bytes : (Nat → Int32)) (bytesLong : Int32) (tokenAt : Int32) (tokenLong : Int32) (token : Int32) (value : Int32) (t0 : Int32) : Option (Int32 × Int32 × Int32 × Int32) := f_X9_lookAt_b136  bytes bytesLong s_fuel tokenAt tokenLong token value t0
set_option maxHeartbeats 4000000 in
set_option maxRecDepth 100000 in
theorem w_X9_lookAt_b135 {p : Program} {l : Launch} {e : Env} {s : State} {m : MethodId} {args : Array Value} {below : List Frame} {meth : Method} {c : Code} {A : Nat → Prop} {Q : State → Prop} {D : va_G} {cI cB cZ : ClassId} {a_this a_all a_kept a_isKept a_refused a_hand a_outs a_order0 a_bestOrder a_tells a_bytes a_anew a_values : Nat} {above : Int64} {below_ : Int64} {bytes : (Nat → Int32)} {bytesLong : Int32} (C0 : Cx p s m args c cX9_lookAt 5 RX9 wsX9_lookAt D (s_tys cI cB cZ) A) {rv : Int32 × Int32 × Int32 × Int32} (hend : ∀ (pc : Nat) (H : Heap) (locs : List Loc) (ls : Array Slot), decode cX9_lookAt pc = .ok (.return_, 1) → sS D vwCl A s.heap (wd_X9_lookAt cI cB cZ a_this a_all a_kept a_isKept a_refused a_hand a_outs a_order0 a_bestOrder a_tells a_bytes a_anew a_values above below_ bytes bytesLong rv.1 rv.2.1 rv.2.2.1 rv.2.2.2) H locs → W p l e rm_X9_lookAt s m args below meth c H locs 0 0 Q (F0 m pc ls [])) : ∀ (tokenAt : Int32) (tokenLong : Int32) (token : Int32) (value : Int32) (t0 : Int32) (H : Heap) (locs : List Loc) (ls : Array Slot), f_X9_lookAt_b135 bytes bytesLong tokenAt tokenLong token value t0 = some rv → sS D vwCl A s.heap (wd_X9_lookAt cI cB cZ a_this a_all a_kept a_isKept a_refused a_hand a_outs a_order0 a_bestOrder a_tells a_bytes a_anew a_values above below_ bytes bytesLong tokenAt tokenLong token value) H locs → lv_has ls 5 [(0, .ref a_this)] → W p l e rm_X9_lookAt s m args below meth c H locs 0 0 Q (F0 m 135 ls [.int t0]) := by
  obtain ⟨hx, hb, hml, hown, hts, hK, hA⟩ := id C0
  have inX9 : ∀ w ∈ u_ws RX9 TX9 19, w ∈ wsX9_lookAt := inX9_X9_lookAt
  intro tokenAt tokenLong token value t0 H locs ls h hS hl
  unfold f_X9_lookAt_b135 at h
  refine lv_istore_n (lv' := [(3, .int t0), (0, .ref a_this)]) hx hb dX9_lookAt_135 rfl hl (by decide) rfl (fun ls hl => ?_)
  exact w_X9_lookAt_b136 C0 hend  s_fuel tokenAt tokenLong token value t0 _ _ _ h hS (lv_sub hl [1, 0] rfl)
def f_X9_lookAt_b114  (bytes : (Nat → Int32)) (bytesLong : Int32) (tokenAt : Int32) (tokenLong : Int32) (token : Int32) (value : Int32) (t0 : Int32) : Option (Int32 × Int32 × Int32 × Int32) := (if (3 : Int32) ≤ t0 then f_X9_lookAt_b135  bytes bytesLong tokenAt (1 : Int32) t0 value (0 : Int32) else f_X9_lookAt_b135  bytes bytesLong tokenAt (1 : Int32) t0 value (1 : Int32))
set_option maxHeartbeats 4000000 in
set_option maxRecDepth 100000 in
theorem w_X9_lookAt_b114 {p : Program} {l : Launch} {e : Env} {s : State} {m : MethodId} {args : Array Value} {below : List Frame} {meth : Method} {c : Code} {A : Nat → Prop} {Q : State → Prop} {D : va_G} {cI cB cZ : ClassId} {a_this a_all a_kept a_isKept a_refused a_hand a_outs a_order0 a_bestOrder a_tells a_bytes a_anew a_values : Nat} {above : Int64} {below_ : Int64} {bytes : (Nat → Int32)} {bytesLong : Int32} (C0 : Cx p s m args c cX9_lookAt 5 RX9 wsX9_lookAt D (s_tys cI cB cZ) A) {rv : Int32 × Int32 × Int32 × Int32} (hend : ∀ (pc : Nat) (H : Heap) (locs : List Loc) (ls : Array Slot), decode cX9_lookAt pc = .ok (.return_, 1) → sS D vwCl A s.heap (wd_X9_lookAt cI cB cZ a_this a_all a_kept a_isKept a_refused a_hand a_outs a_order0 a_bestOrder a_tells a_bytes a_anew a_values above below_ bytes bytesLong rv.1 rv.2.1 rv.2.2.1 rv.2.2.2) H locs → W p l e rm_X9_lookAt s m args below meth c H locs 0 0 Q (F0 m pc ls [])) : ∀ (tokenAt : Int32) (tokenLong : Int32) (token : Int32) (value : Int32) (t0 : Int32) (H : Heap) (locs : List Loc) (ls : Array Slot), f_X9_lookAt_b114 bytes bytesLong tokenAt tokenLong token value t0 = some rv → sS D vwCl A s.heap (wd_X9_lookAt cI cB cZ a_this a_all a_kept a_isKept a_refused a_hand a_outs a_order0 a_bestOrder a_tells a_bytes a_anew a_values above below_ bytes bytesLong tokenAt tokenLong token value) H locs → lv_has ls 5 [(0, .ref a_this)] → W p l e rm_X9_lookAt s m args below meth c H locs 0 0 Q (F0 m 114 ls [.int t0, .ref a_this]) := by
  obtain ⟨hx, hb, hml, hown, hts, hK, hA⟩ := id C0
  have inX9 : ∀ w ∈ u_ws RX9 TX9 19, w ∈ wsX9_lookAt := inX9_X9_lookAt
  intro tokenAt tokenLong token value t0 H locs ls h hS hl
  unfold f_X9_lookAt_b114 at h
  refine s_put (ws' := (wd_X9_lookAt cI cB cZ a_this a_all a_kept a_isKept a_refused a_hand a_outs a_order0 a_bestOrder a_tells a_bytes a_anew a_values above below_ bytes bytesLong tokenAt tokenLong t0 value)) (C := RX9) (T := TX9) (N := 19) hx hb hts inX9 tyX9 tyX9_ok nmX9 hown hK hS 0 rfl rfl 15 (by decide) (hts (.fieldLink RX9 234 "InnTurnedModel" "token" "I") (List.mem_of_getElem? (i := 5) rfl)) rfl rfl rfl rfl (Nat.le_of_ble_eq_true rfl) rfl dX9_lookAt_114 (fun H locs hS => ?_)
  refine lv_aload_n hx hb dX9_lookAt_117 rfl (lv_at hl 0 rfl) ?_
  refine lv_iconst (v := (1 : Int32)) hx hb dX9_lookAt_118 (by decide) ?_
  refine s_put (ws' := (wd_X9_lookAt cI cB cZ a_this a_all a_kept a_isKept a_refused a_hand a_outs a_order0 a_bestOrder a_tells a_bytes a_anew a_values above below_ bytes bytesLong tokenAt (1 : Int32) t0 value)) (C := RX9) (T := TX9) (N := 19) hx hb hts inX9 tyX9 tyX9_ok nmX9 hown hK hS 0 rfl rfl 14 (by decide) (hts (.fieldLink RX9 231 "InnTurnedModel" "tokenLong" "I") (List.mem_of_getElem? (i := 4) rfl)) rfl rfl rfl rfl (Nat.le_of_ble_eq_true rfl) rfl dX9_lookAt_119 (fun H locs hS => ?_)
  refine lv_aload_n hx hb dX9_lookAt_122 rfl (lv_at hl 0 rfl) ?_
  refine s_get (C := RX9) (T := TX9) (N := 19) hx hb hts inX9 hown hK hS 0 rfl rfl 15 (by decide) (hts (.fieldLink RX9 234 "InnTurnedModel" "token" "I") (List.mem_of_getElem? (i := 5) rfl)) rfl rfl dX9_lookAt_123 ?_
  refine lv_iconst (v := (3 : Int32)) hx hb dX9_lookAt_126 (by decide) ?_
  refine lv_icmp_ge (tgt := 134) hx hb dX9_lookAt_127 (by decide) (fun c14 => ?_) (fun c14 => ?_)
  · replace h := s_yes c14 h
    refine lv_iconst (v := (0 : Int32)) hx hb dX9_lookAt_134 (by decide) ?_
    exact w_X9_lookAt_b135 C0 hend  tokenAt (1 : Int32) t0 value (0 : Int32) _ _ _ h hS (lv_sub hl [0] rfl)
  replace h := s_no c14 h
  refine lv_iconst (v := (1 : Int32)) hx hb dX9_lookAt_130 (by decide) ?_
  refine lv_goto (tgt := 135) hx hb dX9_lookAt_131 (by decide) ?_
  exact w_X9_lookAt_b135 C0 hend  tokenAt (1 : Int32) t0 value (1 : Int32) _ _ _ h hS (lv_sub hl [0] rfl)
def f_X9_lookAt_b43  (bytes : (Nat → Int32)) (bytesLong : Int32) (tokenAt : Int32) (tokenLong : Int32) (token : Int32) (value : Int32) : Option (Int32 × Int32 × Int32 × Int32) := (if tokenAt = bytesLong then some (tokenAt, (0 : Int32), (0 : Int32), (0 : Int32)) else (if ¬ (tokenAt < 0 ∨ 150 ≤ (Int32.toNatClampNeg tokenAt)) then ((f_X9_isSmall (bytes (Int32.toNatClampNeg tokenAt))).bind fun q17 => (if q17 = 0 then ((f_X9_isFigure (bytes (Int32.toNatClampNeg tokenAt))).bind fun q19 => (if q19 = 0 then (if (bytes (Int32.toNatClampNeg tokenAt)) = (59 : Int32) then f_X9_lookAt_b114  bytes bytesLong tokenAt (0 : Int32) (0 : Int32) (0 : Int32) (3 : Int32) else f_X9_lookAt_b114  bytes bytesLong tokenAt (0 : Int32) (0 : Int32) (0 : Int32) (4 : Int32)) else f_X9_lookAt_b114  bytes bytesLong tokenAt (0 : Int32) (0 : Int32) (0 : Int32) (2 : Int32))) else f_X9_lookAt_b114  bytes bytesLong tokenAt (0 : Int32) (0 : Int32) (0 : Int32) (1 : Int32))) else none))
set_option maxHeartbeats 4000000 in
set_option maxRecDepth 100000 in
theorem w_X9_lookAt_b43 {p : Program} {l : Launch} {e : Env} {s : State} {m : MethodId} {args : Array Value} {below : List Frame} {meth : Method} {c : Code} {A : Nat → Prop} {Q : State → Prop} {D : va_G} {cI cB cZ : ClassId} {a_this a_all a_kept a_isKept a_refused a_hand a_outs a_order0 a_bestOrder a_tells a_bytes a_anew a_values : Nat} {above : Int64} {below_ : Int64} {bytes : (Nat → Int32)} {bytesLong : Int32} (C0 : Cx p s m args c cX9_lookAt 5 RX9 wsX9_lookAt D (s_tys cI cB cZ) A) {rv : Int32 × Int32 × Int32 × Int32} (hend : ∀ (pc : Nat) (H : Heap) (locs : List Loc) (ls : Array Slot), decode cX9_lookAt pc = .ok (.return_, 1) → sS D vwCl A s.heap (wd_X9_lookAt cI cB cZ a_this a_all a_kept a_isKept a_refused a_hand a_outs a_order0 a_bestOrder a_tells a_bytes a_anew a_values above below_ bytes bytesLong rv.1 rv.2.1 rv.2.2.1 rv.2.2.2) H locs → W p l e rm_X9_lookAt s m args below meth c H locs 0 0 Q (F0 m pc ls [])) : ∀ (tokenAt : Int32) (tokenLong : Int32) (token : Int32) (value : Int32) (H : Heap) (locs : List Loc) (ls : Array Slot), f_X9_lookAt_b43 bytes bytesLong tokenAt tokenLong token value = some rv → sS D vwCl A s.heap (wd_X9_lookAt cI cB cZ a_this a_all a_kept a_isKept a_refused a_hand a_outs a_order0 a_bestOrder a_tells a_bytes a_anew a_values above below_ bytes bytesLong tokenAt tokenLong token value) H locs → lv_has ls 5 [(0, .ref a_this)] → W p l e rm_X9_lookAt s m args below meth c H locs 0 0 Q (F0 m 43 ls []) := by
  obtain ⟨hx, hb, hml, hown, hts, hK, hA⟩ := id C0
  have inX9 : ∀ w ∈ u_ws RX9 TX9 19, w ∈ wsX9_lookAt := inX9_X9_lookAt
  intro tokenAt tokenLong token value H locs ls h hS hl
  unfold f_X9_lookAt_b43 at h
  refine lv_aload_n hx hb dX9_lookAt_43 rfl (lv_at hl 0 rfl) ?_
  refine lv_iconst (v := (0 : Int32)) hx hb dX9_lookAt_44 (by decide) ?_
  refine s_put (ws' := (wd_X9_lookAt cI cB cZ a_this a_all a_kept a_isKept a_refused a_hand a_outs a_order0 a_bestOrder a_tells a_bytes a_anew a_values above below_ bytes bytesLong tokenAt (0 : Int32) token value)) (C := RX9) (T := TX9) (N := 19) hx hb hts inX9 tyX9 tyX9_ok nmX9 hown hK hS 0 rfl rfl 14 (by decide) (hts (.fieldLink RX9 231 "InnTurnedModel" "tokenLong" "I") (List.mem_of_getElem? (i := 4) rfl)) rfl rfl rfl rfl (Nat.le_of_ble_eq_true rfl) rfl dX9_lookAt_45 (fun H locs hS => ?_)
  refine lv_aload_n hx hb dX9_lookAt_48 rfl (lv_at hl 0 rfl) ?_
  refine lv_iconst (v := (0 : Int32)) hx hb dX9_lookAt_49 (by decide) ?_
  refine s_put (ws' := (wd_X9_lookAt cI cB cZ a_this a_all a_kept a_isKept a_refused a_hand a_outs a_order0 a_bestOrder a_tells a_bytes a_anew a_values above below_ bytes bytesLong tokenAt (0 : Int32) (0 : Int32) value)) (C := RX9) (T := TX9) (N := 19) hx hb hts inX9 tyX9 tyX9_ok nmX9 hown hK hS 0 rfl rfl 15 (by decide) (hts (.fieldLink RX9 234 "InnTurnedModel" "token" "I") (List.mem_of_getElem? (i := 5) rfl)) rfl rfl rfl rfl (Nat.le_of_ble_eq_true rfl) rfl dX9_lookAt_50 (fun H locs hS => ?_)
  refine lv_aload_n hx hb dX9_lookAt_53 rfl (lv_at hl 0 rfl) ?_
  refine lv_iconst (v := (0 : Int32)) hx hb dX9_lookAt_54 (by decide) ?_
  refine s_put (ws' := (wd_X9_lookAt cI cB cZ a_this a_all a_kept a_isKept a_refused a_hand a_outs a_order0 a_bestOrder a_tells a_bytes a_anew a_values above below_ bytes bytesLong tokenAt (0 : Int32) (0 : Int32) (0 : Int32))) (C := RX9) (T := TX9) (N := 19) hx hb hts inX9 tyX9 tyX9_ok nmX9 hown hK hS 0 rfl rfl 16 (by decide) (hts (.fieldLink RX9 237 "InnTurnedModel" "value" "I") (List.mem_of_getElem? (i := 6) rfl)) rfl rfl rfl rfl (Nat.le_of_ble_eq_true rfl) rfl dX9_lookAt_55 (fun H locs hS => ?_)
  refine lv_aload_n hx hb dX9_lookAt_58 rfl (lv_at hl 0 rfl) ?_
  refine s_get (C := RX9) (T := TX9) (N := 19) hx hb hts inX9 hown hK hS 0 rfl rfl 13 (by decide) (hts (.fieldLink RX9 228 "InnTurnedModel" "tokenAt" "I") (List.mem_of_getElem? (i := 1) rfl)) rfl rfl dX9_lookAt_59 ?_
  refine lv_aload_n hx hb dX9_lookAt_62 rfl (lv_at hl 0 rfl) ?_
  refine s_get (C := RX9) (T := TX9) (N := 19) hx hb hts inX9 hown hK hS 0 rfl rfl 12 (by decide) (hts (.fieldLink RX9 216 "InnTurnedModel" "bytesLong" "I") (List.mem_of_getElem? (i := 2) rfl)) rfl rfl dX9_lookAt_63 ?_
  refine lv_icmp_ne (tgt := 70) hx hb dX9_lookAt_66 (by decide) (fun c15 => ?_) (fun c15 => ?_)
  · replace h := s_no c15 h
    refine lv_aload_n hx hb dX9_lookAt_70 rfl (lv_at hl 0 rfl) ?_
    refine s_get (C := RX9) (T := TX9) (N := 19) hx hb hts inX9 hown hK hS 0 rfl rfl 11 (by decide) (hts (.fieldLink RX9 42 "InnTurnedModel" "bytes" "[I") (List.mem_of_getElem? (i := 3) rfl)) rfl rfl dX9_lookAt_71 ?_
    refine lv_aload_n hx hb dX9_lookAt_74 rfl (lv_at hl 0 rfl) ?_
    refine s_get (C := RX9) (T := TX9) (N := 19) hx hb hts inX9 hown hK hS 0 rfl rfl 13 (by decide) (hts (.fieldLink RX9 228 "InnTurnedModel" "tokenAt" "I") (List.mem_of_getElem? (i := 1) rfl)) rfl rfl dX9_lookAt_75 ?_
    obtain ⟨g16, h⟩ := s_guard h
    refine s_iald hx hb hK hS 1 rfl rfl g16 dX9_lookAt_78 ?_
    refine lv_istore_n (lv' := [(2, .int (bytes (Int32.toNatClampNeg tokenAt))), (0, .ref a_this)]) hx hb dX9_lookAt_79 rfl hl (by decide) rfl (fun ls hl => ?_)
    refine lv_aload_n hx hb dX9_lookAt_80 rfl (lv_at hl 1 rfl) ?_
    refine lv_iload_n hx hb dX9_lookAt_81 rfl (lv_at hl 0 rfl) ?_
    obtain ⟨q17, hq17, h⟩ := s_bind h
    refine u_calliS (r := q17) (As := [.int (bytes (Int32.toNatClampNeg tokenAt))]) (rest := [.ref a_this]) (wc := ([] : va_W)) hx hb hml hown hts hK hA hl hS (c_X9_isSmall l D cI cB cZ (bytes (Int32.toNatClampNeg tokenAt)) _ _ hq17) (va_cwS 1 hts gX9_lookAt_X9_isSmall rfl rfl rfl (by decide +kernel) ⟨Nat.le_of_ble_eq_true rfl, Nat.le_of_ble_eq_true rfl⟩) [] rfl rfl rfl rfl (Nat.le_of_ble_eq_true rfl) dX9_lookAt_82 (fun H locs hS => ?_)
    refine lv_if_eq (tgt := 92) hx hb dX9_lookAt_85 (by decide) (fun c18 => ?_) (fun c18 => ?_)
    · replace h := s_yes c18 h
      refine lv_iload_n hx hb dX9_lookAt_92 rfl (lv_at hl 0 rfl) ?_
      obtain ⟨q19, hq19, h⟩ := s_bind h
      refine u_calliS (r := q19) (As := [.int (bytes (Int32.toNatClampNeg tokenAt))]) (rest := [.ref a_this]) (wc := ([] : va_W)) hx hb hml hown hts hK hA hl hS (c_X9_isFigure l D cI cB cZ (bytes (Int32.toNatClampNeg tokenAt)) _ _ hq19) (va_cwS 1 hts gX9_lookAt_X9_isFigure rfl rfl rfl (by decide +kernel) ⟨Nat.le_of_ble_eq_true rfl, Nat.le_of_ble_eq_true rfl⟩) [] rfl rfl rfl rfl (Nat.le_of_ble_eq_true rfl) dX9_lookAt_93 (fun H locs hS => ?_)
      refine lv_if_eq (tgt := 103) hx hb dX9_lookAt_96 (by decide) (fun c20 => ?_) (fun c20 => ?_)
      · replace h := s_yes c20 h
        refine lv_iload_n hx hb dX9_lookAt_103 rfl (lv_at hl 0 rfl) ?_
        refine lv_bipush (v := (59 : Int32)) hx hb dX9_lookAt_104 (by decide) ?_
        refine lv_icmp_ne (tgt := 113) hx hb dX9_lookAt_106 (by decide) (fun c21 => ?_) (fun c21 => ?_)
        · replace h := s_no c21 h
          refine lv_iconst (v := (4 : Int32)) hx hb dX9_lookAt_113 (by decide) ?_
          exact w_X9_lookAt_b114 C0 hend  tokenAt (0 : Int32) (0 : Int32) (0 : Int32) (4 : Int32) _ _ _ h hS (lv_sub hl [1] rfl)
        replace h := s_yes c21 h
        refine lv_iconst (v := (3 : Int32)) hx hb dX9_lookAt_109 (by decide) ?_
        refine lv_goto (tgt := 114) hx hb dX9_lookAt_110 (by decide) ?_
        exact w_X9_lookAt_b114 C0 hend  tokenAt (0 : Int32) (0 : Int32) (0 : Int32) (3 : Int32) _ _ _ h hS (lv_sub hl [1] rfl)
      replace h := s_no c20 h
      refine lv_iconst (v := (2 : Int32)) hx hb dX9_lookAt_99 (by decide) ?_
      refine lv_goto (tgt := 114) hx hb dX9_lookAt_100 (by decide) ?_
      exact w_X9_lookAt_b114 C0 hend  tokenAt (0 : Int32) (0 : Int32) (0 : Int32) (2 : Int32) _ _ _ h hS (lv_sub hl [1] rfl)
    replace h := s_no c18 h
    refine lv_iconst (v := (1 : Int32)) hx hb dX9_lookAt_88 (by decide) ?_
    refine lv_goto (tgt := 114) hx hb dX9_lookAt_89 (by decide) ?_
    exact w_X9_lookAt_b114 C0 hend  tokenAt (0 : Int32) (0 : Int32) (0 : Int32) (1 : Int32) _ _ _ h hS (lv_sub hl [1] rfl)
  replace h := s_yes c15 h
  obtain rfl := Option.some.inj h
  exact hend _ _ _ _ dX9_lookAt_69 hS
def f_X9_lookAt_b5  (bytes : (Nat → Int32)) (bytesLong : Int32) : Nat → Int32 → Int32 → Int32 → Int32 → Option (Int32 × Int32 × Int32 × Int32)
  | 0, _, _, _, _ => none
  | fu + 1, tokenAt, tokenLong, token, value => (if bytesLong ≤ tokenAt then f_X9_lookAt_b43  bytes bytesLong tokenAt tokenLong token value else (if ¬ (tokenAt < 0 ∨ 150 ≤ (Int32.toNatClampNeg tokenAt)) then (if (bytes (Int32.toNatClampNeg tokenAt)) = (32 : Int32) then (f_X9_lookAt_b5 bytes bytesLong fu) (tokenAt + (1 : Int32)) tokenLong token value else f_X9_lookAt_b43  bytes bytesLong tokenAt tokenLong token value) else none))
set_option maxHeartbeats 4000000 in
set_option maxRecDepth 100000 in
theorem w_X9_lookAt_b5 {p : Program} {l : Launch} {e : Env} {s : State} {m : MethodId} {args : Array Value} {below : List Frame} {meth : Method} {c : Code} {A : Nat → Prop} {Q : State → Prop} {D : va_G} {cI cB cZ : ClassId} {a_this a_all a_kept a_isKept a_refused a_hand a_outs a_order0 a_bestOrder a_tells a_bytes a_anew a_values : Nat} {above : Int64} {below_ : Int64} {bytes : (Nat → Int32)} {bytesLong : Int32} (C0 : Cx p s m args c cX9_lookAt 5 RX9 wsX9_lookAt D (s_tys cI cB cZ) A) {rv : Int32 × Int32 × Int32 × Int32} (hend : ∀ (pc : Nat) (H : Heap) (locs : List Loc) (ls : Array Slot), decode cX9_lookAt pc = .ok (.return_, 1) → sS D vwCl A s.heap (wd_X9_lookAt cI cB cZ a_this a_all a_kept a_isKept a_refused a_hand a_outs a_order0 a_bestOrder a_tells a_bytes a_anew a_values above below_ bytes bytesLong rv.1 rv.2.1 rv.2.2.1 rv.2.2.2) H locs → W p l e rm_X9_lookAt s m args below meth c H locs 0 0 Q (F0 m pc ls [])) : ∀ (fu : Nat) (tokenAt : Int32) (tokenLong : Int32) (token : Int32) (value : Int32) (H : Heap) (locs : List Loc) (ls : Array Slot), f_X9_lookAt_b5 bytes bytesLong fu tokenAt tokenLong token value = some rv → sS D vwCl A s.heap (wd_X9_lookAt cI cB cZ a_this a_all a_kept a_isKept a_refused a_hand a_outs a_order0 a_bestOrder a_tells a_bytes a_anew a_values above below_ bytes bytesLong tokenAt tokenLong token value) H locs → lv_has ls 5 [(0, .ref a_this)] → W p l e rm_X9_lookAt s m args below meth c H locs 0 0 Q (F0 m 5 ls []) := by
  obtain ⟨hx, hb, hml, hown, hts, hK, hA⟩ := id C0
  have inX9 : ∀ w ∈ u_ws RX9 TX9 19, w ∈ wsX9_lookAt := inX9_X9_lookAt
  intro fu
  induction fu with
  | zero => intro tokenAt tokenLong token value H locs ls h; cases h
  | succ fu ih =>
    intro tokenAt tokenLong token value H locs ls h hS hl
    rw [f_X9_lookAt_b5] at h
    refine lv_aload_n hx hb dX9_lookAt_5 rfl (lv_at hl 0 rfl) ?_
    refine s_get (C := RX9) (T := TX9) (N := 19) hx hb hts inX9 hown hK hS 0 rfl rfl 13 (by decide) (hts (.fieldLink RX9 228 "InnTurnedModel" "tokenAt" "I") (List.mem_of_getElem? (i := 1) rfl)) rfl rfl dX9_lookAt_6 ?_
    refine lv_aload_n hx hb dX9_lookAt_9 rfl (lv_at hl 0 rfl) ?_
    refine s_get (C := RX9) (T := TX9) (N := 19) hx hb hts inX9 hown hK hS 0 rfl rfl 12 (by decide) (hts (.fieldLink RX9 216 "InnTurnedModel" "bytesLong" "I") (List.mem_of_getElem? (i := 2) rfl)) rfl rfl dX9_lookAt_10 ?_
    refine lv_icmp_ge (tgt := 43) hx hb dX9_lookAt_13 (by decide) (fun c22 => ?_) (fun c22 => ?_)
    · replace h := s_yes c22 h
      exact w_X9_lookAt_b43 C0 hend  tokenAt tokenLong token value _ _ _ h hS (lv_sub hl [0] rfl)
    replace h := s_no c22 h
    refine lv_aload_n hx hb dX9_lookAt_16 rfl (lv_at hl 0 rfl) ?_
    refine s_get (C := RX9) (T := TX9) (N := 19) hx hb hts inX9 hown hK hS 0 rfl rfl 11 (by decide) (hts (.fieldLink RX9 42 "InnTurnedModel" "bytes" "[I") (List.mem_of_getElem? (i := 3) rfl)) rfl rfl dX9_lookAt_17 ?_
    refine lv_aload_n hx hb dX9_lookAt_20 rfl (lv_at hl 0 rfl) ?_
    refine s_get (C := RX9) (T := TX9) (N := 19) hx hb hts inX9 hown hK hS 0 rfl rfl 13 (by decide) (hts (.fieldLink RX9 228 "InnTurnedModel" "tokenAt" "I") (List.mem_of_getElem? (i := 1) rfl)) rfl rfl dX9_lookAt_21 ?_
    obtain ⟨g23, h⟩ := s_guard h
    refine s_iald hx hb hK hS 1 rfl rfl g23 dX9_lookAt_24 ?_
    refine lv_bipush (v := (32 : Int32)) hx hb dX9_lookAt_25 (by decide) ?_
    refine lv_icmp_ne (tgt := 43) hx hb dX9_lookAt_27 (by decide) (fun c24 => ?_) (fun c24 => ?_)
    · replace h := s_no c24 h
      exact w_X9_lookAt_b43 C0 hend  tokenAt tokenLong token value _ _ _ h hS (lv_sub hl [0] rfl)
    replace h := s_yes c24 h
    refine lv_aload_n hx hb dX9_lookAt_30 rfl (lv_at hl 0 rfl) ?_
    refine lv_dup hx hb dX9_lookAt_31 rfl ?_
    refine s_get (C := RX9) (T := TX9) (N := 19) hx hb hts inX9 hown hK hS 0 rfl rfl 13 (by decide) (hts (.fieldLink RX9 228 "InnTurnedModel" "tokenAt" "I") (List.mem_of_getElem? (i := 1) rfl)) rfl rfl dX9_lookAt_32 ?_
    refine lv_iconst (v := (1 : Int32)) hx hb dX9_lookAt_35 (by decide) ?_
    refine lv_iadd hx hb dX9_lookAt_36 ?_
    refine s_put (ws' := (wd_X9_lookAt cI cB cZ a_this a_all a_kept a_isKept a_refused a_hand a_outs a_order0 a_bestOrder a_tells a_bytes a_anew a_values above below_ bytes bytesLong (tokenAt + (1 : Int32)) tokenLong token value)) (C := RX9) (T := TX9) (N := 19) hx hb hts inX9 tyX9 tyX9_ok nmX9 hown hK hS 0 rfl rfl 13 (by decide) (hts (.fieldLink RX9 228 "InnTurnedModel" "tokenAt" "I") (List.mem_of_getElem? (i := 1) rfl)) rfl rfl rfl rfl (Nat.le_of_ble_eq_true rfl) rfl dX9_lookAt_37 (fun H locs hS => ?_)
    refine lv_goto (tgt := 5) hx hb dX9_lookAt_40 (by decide) ?_
    exact ih (tokenAt + (1 : Int32)) tokenLong token value _ _ _ h hS (lv_sub hl [0] rfl)
def f_X9_lookAt  (bytes : (Nat → Int32)) (bytesLong : Int32) (tokenAt : Int32) (tokenLong : Int32) (token : Int32) (value : Int32) (p1 : Int32) : Option (Int32 × Int32 × Int32 × Int32) := f_X9_lookAt_b5  bytes bytesLong s_fuel p1 tokenLong token value
set_option maxHeartbeats 4000000 in
set_option maxRecDepth 100000 in
theorem c_X9_lookAt (l : Launch) (D : va_G) (cI cB cZ : ClassId) (a_this : Nat) (a_all : Nat) (a_kept : Nat) (a_isKept : Nat) (a_refused : Nat) (a_hand : Nat) (a_outs : Nat) (a_order0 : Nat) (a_bestOrder : Nat) (a_tells : Nat) (a_bytes : Nat) (a_anew : Nat) (a_values : Nat) (above : Int64) (below_ : Int64) (bytes : (Nat → Int32)) (bytesLong : Int32) (tokenAt : Int32) (tokenLong : Int32) (token : Int32) (value : Int32) (p1 : Int32) (rv : Int32 × Int32 × Int32 × Int32) (sz : Nat) (hf : f_X9_lookAt bytes bytesLong tokenAt tokenLong token value p1 = some rv) : Met l yX9_lookAt wsX9_lookAt rm_X9_lookAt (sPc D vwCl (s_tys cI cB cZ) [.ref a_this, .int p1] (wd_X9_lookAt cI cB cZ a_this a_all a_kept a_isKept a_refused a_hand a_outs a_order0 a_bestOrder a_tells a_bytes a_anew a_values above below_ bytes bytesLong tokenAt tokenLong token value) sz) (sQv D vwCl (wd_X9_lookAt cI cB cZ a_this a_all a_kept a_isKept a_refused a_hand a_outs a_order0 a_bestOrder a_tells a_bytes a_anew a_values above below_ bytes bytesLong tokenAt tokenLong token value) (wd_X9_lookAt cI cB cZ a_this a_all a_kept a_isKept a_refused a_hand a_outs a_order0 a_bestOrder a_tells a_bytes a_anew a_values above below_ bytes bytesLong rv.1 rv.2.1 rv.2.2.1 rv.2.2.2) sz) 0 0 (va_A (wd_X9_lookAt cI cB cZ a_this a_all a_kept a_isKept a_refused a_hand a_outs a_order0 a_bestOrder a_tells a_bytes a_anew a_values above below_ bytes bytesLong tokenAt tokenLong token value) sz) := by
  refine s_enter_v (cc := cX9_lookAt) (nL := 5) (by decide) rfl (Nat.le_of_ble_eq_true rfl) ?_
  intro p e s m args below meth c A Q C0 hend ls hl hS
  have h := hf
  clear hf
  replace hl : lv_has ls 5 [(0, .ref a_this), (1, .int p1)] := hl
  unfold f_X9_lookAt at h
  obtain ⟨hx, hb, hml, hown, hts, hK, hA⟩ := id C0
  have inX9 : ∀ w ∈ u_ws RX9 TX9 19, w ∈ wsX9_lookAt := inX9_X9_lookAt
  refine lv_aload_n hx hb dX9_lookAt_0 rfl (lv_at hl 0 rfl) ?_
  refine lv_iload_n hx hb dX9_lookAt_1 rfl (lv_at hl 1 rfl) ?_
  refine s_put (ws' := (wd_X9_lookAt cI cB cZ a_this a_all a_kept a_isKept a_refused a_hand a_outs a_order0 a_bestOrder a_tells a_bytes a_anew a_values above below_ bytes bytesLong p1 tokenLong token value)) (C := RX9) (T := TX9) (N := 19) hx hb hts inX9 tyX9 tyX9_ok nmX9 hown hK hS 0 rfl rfl 13 (by decide) (hts (.fieldLink RX9 228 "InnTurnedModel" "tokenAt" "I") (List.mem_of_getElem? (i := 1) rfl)) rfl rfl rfl rfl (Nat.le_of_ble_eq_true rfl) rfl dX9_lookAt_2 (fun H locs hS => ?_)
  exact w_X9_lookAt_b5 C0 hend  s_fuel p1 tokenLong token value _ _ _ h hS (lv_sub hl [0] rfl)

-- InnTurnedModel.goBehind()V
def wd_X9_goBehind (cI cB cZ : ClassId) (a_this : Nat) (a_all : Nat) (a_kept : Nat) (a_isKept : Nat) (a_refused : Nat) (a_hand : Nat) (a_outs : Nat) (a_order0 : Nat) (a_bestOrder : Nat) (a_tells : Nat) (a_bytes : Nat) (a_anew : Nat) (a_values : Nat)  (above : Int64) (below_ : Int64) (bytes : (Nat → Int32)) (bytesLong : Int32) (tokenAt : Int32) (tokenLong : Int32) (token : Int32) (value : Int32) : va_W := [(a_this, .inr (6, [.ref a_all, .ref a_kept, .ref a_isKept, .ref a_refused, .long above, .long below_, .ref a_hand, .ref a_outs, .ref a_order0, .ref a_bestOrder, .ref a_tells, .ref a_bytes, .int bytesLong, .int tokenAt, .int tokenLong, .int token, .int value, .ref a_anew, .ref a_values])), (a_bytes, .inl (cI, 150, .inl bytes))]
abbrev rm_X9_goBehind : Room := { frames := 3, cells := 0, slots := 0, locals := 69 }
set_option maxRecDepth 20000 in
theorem inX9_X9_goBehind : ∀ w ∈ u_ws RX9 TX9 19, w ∈ wsX9_goBehind := by decide +kernel
def f_X9_goBehind  (bytes : (Nat → Int32)) (bytesLong : Int32) (tokenAt : Int32) (tokenLong : Int32) (token : Int32) (value : Int32) : Option (Int32 × Int32 × Int32 × Int32) := ((f_X9_lookAt bytes bytesLong tokenAt tokenLong token value (tokenAt + tokenLong)).bind fun q1 => some (q1.1, q1.2.1, q1.2.2.1, q1.2.2.2))
set_option maxHeartbeats 4000000 in
set_option maxRecDepth 100000 in
theorem c_X9_goBehind (l : Launch) (D : va_G) (cI cB cZ : ClassId) (a_this : Nat) (a_all : Nat) (a_kept : Nat) (a_isKept : Nat) (a_refused : Nat) (a_hand : Nat) (a_outs : Nat) (a_order0 : Nat) (a_bestOrder : Nat) (a_tells : Nat) (a_bytes : Nat) (a_anew : Nat) (a_values : Nat) (above : Int64) (below_ : Int64) (bytes : (Nat → Int32)) (bytesLong : Int32) (tokenAt : Int32) (tokenLong : Int32) (token : Int32) (value : Int32) (rv : Int32 × Int32 × Int32 × Int32) (sz : Nat) (hf : f_X9_goBehind bytes bytesLong tokenAt tokenLong token value = some rv) : Met l yX9_goBehind wsX9_goBehind rm_X9_goBehind (sPc D vwCl (s_tys cI cB cZ) [.ref a_this] (wd_X9_goBehind cI cB cZ a_this a_all a_kept a_isKept a_refused a_hand a_outs a_order0 a_bestOrder a_tells a_bytes a_anew a_values above below_ bytes bytesLong tokenAt tokenLong token value) sz) (sQv D vwCl (wd_X9_goBehind cI cB cZ a_this a_all a_kept a_isKept a_refused a_hand a_outs a_order0 a_bestOrder a_tells a_bytes a_anew a_values above below_ bytes bytesLong tokenAt tokenLong token value) (wd_X9_goBehind cI cB cZ a_this a_all a_kept a_isKept a_refused a_hand a_outs a_order0 a_bestOrder a_tells a_bytes a_anew a_values above below_ bytes bytesLong rv.1 rv.2.1 rv.2.2.1 rv.2.2.2) sz) 0 0 (va_A (wd_X9_goBehind cI cB cZ a_this a_all a_kept a_isKept a_refused a_hand a_outs a_order0 a_bestOrder a_tells a_bytes a_anew a_values above below_ bytes bytesLong tokenAt tokenLong token value) sz) := by
  refine s_enter_v (cc := cX9_goBehind) (nL := 1) (by decide) rfl (Nat.le_of_ble_eq_true rfl) ?_
  intro p e s m args below meth c A Q C0 hend ls hl hS
  have h := hf
  clear hf
  replace hl : lv_has ls 1 [(0, .ref a_this)] := hl
  unfold f_X9_goBehind at h
  obtain ⟨hx, hb, hml, hown, hts, hK, hA⟩ := id C0
  have inX9 : ∀ w ∈ u_ws RX9 TX9 19, w ∈ wsX9_goBehind := inX9_X9_goBehind
  refine lv_aload_n hx hb dX9_goBehind_0 rfl (lv_at hl 0 rfl) ?_
  refine lv_aload_n hx hb dX9_goBehind_1 rfl (lv_at hl 0 rfl) ?_
  refine s_get (C := RX9) (T := TX9) (N := 19) hx hb hts inX9 hown hK hS 0 rfl rfl 13 (by decide) (hts (.fieldLink RX9 228 "InnTurnedModel" "tokenAt" "I") (List.mem_of_getElem? (i := 1) rfl)) rfl rfl dX9_goBehind_2 ?_
  refine lv_aload_n hx hb dX9_goBehind_5 rfl (lv_at hl 0 rfl) ?_
  refine s_get (C := RX9) (T := TX9) (N := 19) hx hb hts inX9 hown hK hS 0 rfl rfl 14 (by decide) (hts (.fieldLink RX9 231 "InnTurnedModel" "tokenLong" "I") (List.mem_of_getElem? (i := 2) rfl)) rfl rfl dX9_goBehind_6 ?_
  refine lv_iadd hx hb dX9_goBehind_9 ?_
  obtain ⟨q1, hq1, h⟩ := s_bind h
  refine r_callvV (As := [.int (tokenAt + tokenLong)]) (rest := []) (wc := (wd_X9_lookAt cI cB cZ a_this a_all a_kept a_isKept a_refused a_hand a_outs a_order0 a_bestOrder a_tells a_bytes a_anew a_values above below_ bytes bytesLong tokenAt tokenLong token value)) (w1 := (wd_X9_lookAt cI cB cZ a_this a_all a_kept a_isKept a_refused a_hand a_outs a_order0 a_bestOrder a_tells a_bytes a_anew a_values above below_ bytes bytesLong q1.1 q1.2.1 q1.2.2.1 q1.2.2.2)) (ws' := (wd_X9_goBehind cI cB cZ a_this a_all a_kept a_isKept a_refused a_hand a_outs a_order0 a_bestOrder a_tells a_bytes a_anew a_values above below_ bytes bytesLong q1.1 q1.2.1 q1.2.2.1 q1.2.2.2)) hx hb hml hown hts hK hA hl hS (c_X9_lookAt l D cI cB cZ a_this a_all a_kept a_isKept a_refused a_hand a_outs a_order0 a_bestOrder a_tells a_bytes a_anew a_values above below_ bytes bytesLong tokenAt tokenLong token value (tokenAt + tokenLong) _ _ hq1) (cwV 1 hts gX9_goBehind_X9_lookAt rfl rfl rfl (by decide +kernel) ⟨Nat.le_of_ble_eq_true rfl, Nat.le_of_ble_eq_true rfl⟩) 0 rfl rfl [0, 1] rfl rfl rfl [.inr 0, .inr 1] rfl rfl rfl rfl (Nat.le_of_ble_eq_true rfl) dX9_goBehind_10 (fun H locs hS => ?_)
  obtain rfl := Option.some.inj h
  exact hend _ _ _ _ dX9_goBehind_13 hS

