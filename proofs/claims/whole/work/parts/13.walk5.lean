/-! calls that leave the callee's cells as they were: the world is the same behind them -/
theorem s_join0 {A0 : Nat → Prop} {D : va_G} {cl : List vw_C} {ws wc : va_W} {H H1 : Heap} (hP : va_P D cl ws H) (hD : va_D A0 ws) (isC : List Nat) (hC : isC.map (fun i => ws[i]?) = wc.map some) (hk : ∀ q : Nat, q < H.size → ¬ va_A wc H.size q → H1[q]? = H[q]?) (hP1 : va_P D cl wc H1) : va_P D cl ws H1 := by
  intro k q hq
  by_cases hm : k ∈ isC
  · obtain ⟨j, hj⟩ := List.getElem?_of_mem hm
    have e1 : (isC.map (fun i => ws[i]?))[j]? = some (ws[k]?) := by rw [List.getElem?_map, hj]; rfl
    rw [hC, List.getElem?_map, hq] at e1
    cases hx : wc[j]? with
    | none => rw [hx] at e1; cases e1
    | some x =>
      rw [hx] at e1
      have e2 : x = q := Option.some.inj (Option.some.inj e1)
      exact hP1 j q (by rw [hx, e2])
  · have hlt := (hP k q hq).lt
    refine (hP k q hq).kept (hk q.1 hlt fun hA => ?_)
    rcases hA with ⟨k2, e, h⟩ | h
    · have e1 : (isC.map (fun i => ws[i]?))[k2]? = some (some (q.1, e)) := by rw [hC, List.getElem?_map, h]; rfl
      rw [List.getElem?_map] at e1
      cases hi : isC[k2]? with
      | none => rw [hi] at e1; cases e1
      | some i =>
        rw [hi] at e1
        have hik := hD.1 i k (q.1, e) q (Option.some.inj e1) hq rfl
        subst hik
        exact hm (List.mem_of_getElem? hi)
    · omega
section SU
variable {p : Program} {l : Launch} {e : Env} {R : Room} {s : State} {m : MethodId} {args : Array Value} {below : List Frame} {meth : Method} {c : Code} {H H0 : Heap} {locs : List Loc} {Q : State → Prop} {cc : ByteArray} {pc : Nat} {ls : Array Slot} {rest : List Value} {D : va_G} {cl : List vw_C} {tys : List (ClassId × FieldType)} {A : Nat → Prop} {ws : va_W} {a : Nat}
variable {y : MethodName} {bytes : ByteArray} {maxL nL index n : Nat} {ret : Option FieldType} {Ts wsW : List Cond} {rm : Room} {own C : String} {b : Nat} {As st0 : List Value} {wc w1 ws' : va_W} {lv : List (Nat × Value)}
theorem u_calliV {r : Int32} (hx : p.tables.exec = Jvm.exec) (hb : c.code = cc) (hml : c.maxLocals = nL) (hown : s.vm.findClass own = some m.cls) (hts : ∀ w ∈ Ts, w.before args s = true) (hK : sK D cl tys s) (hA : ∀ q, s.heap.size ≤ q → A q) (hl : lv_has ls nL lv) (hS : sS D cl A s.heap ws H locs)
    (hM : Met l y wsW rm (sPc D cl tys (.ref b :: As) wc H.size) (sQi D cl wc wc H.size r) 0 0 (va_A wc H.size)) (cw : CallW R s args own C index y bytes maxL ret wsW rm 0 0 n) (qr : Nat) {ci : Nat} {fs : List Value} {T : u_T} {N : Nat} (hr0 : ws[qr]? = some (b, .inr (ci, fs))) (hcl : cl[ci]? = some (C, T, N))
    (isC : List Nat) (hC : isC.map (fun i => ws[i]?) = wc.map some) (hnd : va_nd isC = true) (hn : As.length = n) (hst : st0 = As.reverse ++ .ref b :: rest) (hW : (rest.map fun v => v.category).sum ≤ 8) (hdg : decode cc pc = .ok (.invokevirtual index, 3))
    (kk : ∀ (H1 : Heap) (locs1 : List Loc), sS D cl A s.heap ws H1 locs1 → W p l e R s m args below meth c H1 locs1 0 0 Q (F0 m (pc + 3) ls (.int r :: rest))) : W p l e R s m args below meth c H locs 0 0 Q (F0 m pc ls st0) := by
  have hF := s_freeC hS hA hC
  refine va_calli (va_runV (As := As) (rest := rest) ⟨hx, hb, hml, hown, hts⟩ hM cw ⟨s_blind, va_recv hK.1 hS.1 hcl hr0, fun U hU hWm => s_pre hU hWm (s_cut hS.1 hC) hK (s_cutD hS.2.1 hnd hC)⟩ rfl hn hl.1 hst (lv_room hW) hdg ⟨Nat.zero_le _, Nat.zero_le _⟩) hS.2.2 (fun q _ h => hF q h) hF (fun r1 u t H1 locs1 ht hvm hw hB hz1 hk1 hS1 => ?_)
  obtain ⟨hP1, hD1⟩ := hB
  rw [ht] at hP1
  have hP2 := s_join0 hS.1 hS.2.1 isC hC hk1 hP1
  rw [show r1 = r from hw]
  exact kk H1 locs1 ⟨hP2, hS.2.1, hS1⟩
theorem u_calllV {r : Int64} (hx : p.tables.exec = Jvm.exec) (hb : c.code = cc) (hml : c.maxLocals = nL) (hown : s.vm.findClass own = some m.cls) (hts : ∀ w ∈ Ts, w.before args s = true) (hK : sK D cl tys s) (hA : ∀ q, s.heap.size ≤ q → A q) (hl : lv_has ls nL lv) (hS : sS D cl A s.heap ws H locs)
    (hM : Met l y wsW rm (sPc D cl tys (.ref b :: As) wc H.size) (sQl D cl wc wc H.size r) 0 0 (va_A wc H.size)) (cw : CallW R s args own C index y bytes maxL ret wsW rm 0 0 n) (qr : Nat) {ci : Nat} {fs : List Value} {T : u_T} {N : Nat} (hr0 : ws[qr]? = some (b, .inr (ci, fs))) (hcl : cl[ci]? = some (C, T, N))
    (isC : List Nat) (hC : isC.map (fun i => ws[i]?) = wc.map some) (hnd : va_nd isC = true) (hn : As.length = n) (hst : st0 = As.reverse ++ .ref b :: rest) (hW : (rest.map fun v => v.category).sum ≤ 8) (hdg : decode cc pc = .ok (.invokevirtual index, 3))
    (kk : ∀ (H1 : Heap) (locs1 : List Loc), sS D cl A s.heap ws H1 locs1 → W p l e R s m args below meth c H1 locs1 0 0 Q (F0 m (pc + 3) ls (.long r :: rest))) : W p l e R s m args below meth c H locs 0 0 Q (F0 m pc ls st0) := by
  have hF := s_freeC hS hA hC
  refine va_calll (va_runV (As := As) (rest := rest) ⟨hx, hb, hml, hown, hts⟩ hM cw ⟨s_blind, va_recv hK.1 hS.1 hcl hr0, fun U hU hWm => s_pre hU hWm (s_cut hS.1 hC) hK (s_cutD hS.2.1 hnd hC)⟩ rfl hn hl.1 hst (lv_room hW) hdg ⟨Nat.zero_le _, Nat.zero_le _⟩) hS.2.2 (fun q _ h => hF q h) hF (fun r1 u t H1 locs1 ht hvm hw hB hz1 hk1 hS1 => ?_)
  obtain ⟨hP1, hD1⟩ := hB
  rw [ht] at hP1
  have hP2 := s_join0 hS.1 hS.2.1 isC hC hk1 hP1
  rw [show r1 = r from hw]
  exact kk H1 locs1 ⟨hP2, hS.2.1, hS1⟩
theorem u_callvV (hx : p.tables.exec = Jvm.exec) (hb : c.code = cc) (hml : c.maxLocals = nL) (hown : s.vm.findClass own = some m.cls) (hts : ∀ w ∈ Ts, w.before args s = true) (hK : sK D cl tys s) (hA : ∀ q, s.heap.size ≤ q → A q) (hl : lv_has ls nL lv) (hS : sS D cl A s.heap ws H locs)
    (hM : Met l y wsW rm (sPc D cl tys (.ref b :: As) wc H.size) (sQv D cl wc wc H.size) 0 0 (va_A wc H.size)) (cw : CallW R s args own C index y bytes maxL ret wsW rm 0 0 n) (qr : Nat) {ci : Nat} {fs : List Value} {T : u_T} {N : Nat} (hr0 : ws[qr]? = some (b, .inr (ci, fs))) (hcl : cl[ci]? = some (C, T, N))
    (isC : List Nat) (hC : isC.map (fun i => ws[i]?) = wc.map some) (hnd : va_nd isC = true) (hn : As.length = n) (hst : st0 = As.reverse ++ .ref b :: rest) (hW : (rest.map fun v => v.category).sum ≤ 8) (hdg : decode cc pc = .ok (.invokevirtual index, 3))
    (kk : ∀ (H1 : Heap) (locs1 : List Loc), sS D cl A s.heap ws H1 locs1 → W p l e R s m args below meth c H1 locs1 0 0 Q (F0 m (pc + 3) ls rest)) : W p l e R s m args below meth c H locs 0 0 Q (F0 m pc ls st0) := by
  have hF := s_freeC hS hA hC
  refine va_callv (va_runV (As := As) (rest := rest) ⟨hx, hb, hml, hown, hts⟩ hM cw ⟨s_blind, va_recv hK.1 hS.1 hcl hr0, fun U hU hWm => s_pre hU hWm (s_cut hS.1 hC) hK (s_cutD hS.2.1 hnd hC)⟩ rfl hn hl.1 hst (lv_room hW) hdg ⟨Nat.zero_le _, Nat.zero_le _⟩) hS.2.2 (fun q _ h => hF q h) hF (fun u t H1 locs1 ht hvm hw hB hz1 hk1 hS1 => ?_)
  obtain ⟨hP1, hD1⟩ := hB
  rw [ht] at hP1
  have hP2 := s_join0 hS.1 hS.2.1 isC hC hk1 hP1
  exact kk H1 locs1 ⟨hP2, hS.2.1, hS1⟩
theorem u_calliS {r : Int32} (hx : p.tables.exec = Jvm.exec) (hb : c.code = cc) (hml : c.maxLocals = nL) (hown : s.vm.findClass own = some m.cls) (hts : ∀ w ∈ Ts, w.before args s = true) (hK : sK D cl tys s) (hA : ∀ q, s.heap.size ≤ q → A q) (hl : lv_has ls nL lv) (hS : sS D cl A s.heap ws H locs)
    (hM : Met l y wsW rm (sPc D cl tys As wc H.size) (sQi D cl wc wc H.size r) 0 0 (va_A wc H.size)) (cw : CallB R s args own index y bytes maxL ret wsW rm 0 0 n ∧ (Cond.static y).before args s = true)
    (isC : List Nat) (hC : isC.map (fun i => ws[i]?) = wc.map some) (hnd : va_nd isC = true) (hn : As.length = n) (hst : st0 = As.reverse ++ rest) (hW : (rest.map fun v => v.category).sum ≤ 8) (hdg : decode cc pc = .ok (.invokestatic index, 3))
    (kk : ∀ (H1 : Heap) (locs1 : List Loc), sS D cl A s.heap ws H1 locs1 → W p l e R s m args below meth c H1 locs1 0 0 Q (F0 m (pc + 3) ls (.int r :: rest))) : W p l e R s m args below meth c H locs 0 0 Q (F0 m pc ls st0) := by
  have hF := s_freeC hS hA hC
  refine va_calli (va_runS (As := As) (rest := rest) ⟨hx, hb, hml, hown, hts⟩ hM cw ⟨s_blind, fun U hU hWm => s_pre hU hWm (s_cut hS.1 hC) hK (s_cutD hS.2.1 hnd hC)⟩ rfl hn hl.1 hst (lv_room hW) hdg ⟨Nat.zero_le _, Nat.zero_le _⟩) hS.2.2 (fun q _ h => hF q h) hF (fun r1 u t H1 locs1 ht hvm hw hB hz1 hk1 hS1 => ?_)
  obtain ⟨hP1, hD1⟩ := hB
  rw [ht] at hP1
  have hP2 := s_join0 hS.1 hS.2.1 isC hC hk1 hP1
  rw [show r1 = r from hw]
  exact kk H1 locs1 ⟨hP2, hS.2.1, hS1⟩
theorem u_callvS (hx : p.tables.exec = Jvm.exec) (hb : c.code = cc) (hml : c.maxLocals = nL) (hown : s.vm.findClass own = some m.cls) (hts : ∀ w ∈ Ts, w.before args s = true) (hK : sK D cl tys s) (hA : ∀ q, s.heap.size ≤ q → A q) (hl : lv_has ls nL lv) (hS : sS D cl A s.heap ws H locs)
    (hM : Met l y wsW rm (sPc D cl tys As wc H.size) (sQv D cl wc wc H.size) 0 0 (va_A wc H.size)) (cw : CallB R s args own index y bytes maxL ret wsW rm 0 0 n ∧ (Cond.static y).before args s = true)
    (isC : List Nat) (hC : isC.map (fun i => ws[i]?) = wc.map some) (hnd : va_nd isC = true) (hn : As.length = n) (hst : st0 = As.reverse ++ rest) (hW : (rest.map fun v => v.category).sum ≤ 8) (hdg : decode cc pc = .ok (.invokestatic index, 3))
    (kk : ∀ (H1 : Heap) (locs1 : List Loc), sS D cl A s.heap ws H1 locs1 → W p l e R s m args below meth c H1 locs1 0 0 Q (F0 m (pc + 3) ls rest)) : W p l e R s m args below meth c H locs 0 0 Q (F0 m pc ls st0) := by
  have hF := s_freeC hS hA hC
  refine va_callv (va_runS (As := As) (rest := rest) ⟨hx, hb, hml, hown, hts⟩ hM cw ⟨s_blind, fun U hU hWm => s_pre hU hWm (s_cut hS.1 hC) hK (s_cutD hS.2.1 hnd hC)⟩ rfl hn hl.1 hst (lv_room hW) hdg ⟨Nat.zero_le _, Nat.zero_le _⟩) hS.2.2 (fun q _ h => hF q h) hF (fun u t H1 locs1 ht hvm hw hB hz1 hk1 hS1 => ?_)
  obtain ⟨hP1, hD1⟩ := hB
  rw [ht] at hP1
  have hP2 := s_join0 hS.1 hS.2.1 isC hC hk1 hP1
  exact kk H1 locs1 ⟨hP2, hS.2.1, hS1⟩
theorem u_calliN {r : Int32} {host : String} (hx : p.tables.exec = Jvm.exec) (hb : c.code = cc) (hml : c.maxLocals = nL) (hown : s.vm.findClass own = some m.cls) (hts : ∀ w ∈ Ts, w.before args s = true) (hK : sK D cl tys s) (hA : ∀ q, s.heap.size ≤ q → A q) (hl : lv_has ls nL lv) (hS : sS D cl A s.heap ws H locs)
    (hM : Met l y wsW rm (sPc D cl tys As wc H.size) (sQi D cl wc wc H.size r) 0 0 (va_A wc H.size)) (cw : va_CN R s args own index y host bytes maxL ret wsW rm 0 0 n ∧ (Cond.static y).before args s = true ∧ True)
    (isC : List Nat) (hC : isC.map (fun i => ws[i]?) = wc.map some) (hnd : va_nd isC = true) (hn : As.length = n) (hst : st0 = As.reverse ++ rest) (hW : (rest.map fun v => v.category).sum ≤ 8) (hdg : decode cc pc = .ok (.invokestatic index, 3))
    (kk : ∀ (H1 : Heap) (locs1 : List Loc), sS D cl A s.heap ws H1 locs1 → W p l e R s m args below meth c H1 locs1 0 0 Q (F0 m (pc + 3) ls (.int r :: rest))) : W p l e R s m args below meth c H locs 0 0 Q (F0 m pc ls st0) := by
  have hF := s_freeC hS hA hC
  refine va_calli (va_runSN (As := As) (rest := rest) ⟨hx, hb, hml, hown, hts⟩ hM cw ⟨s_blind, fun U hU hWm => s_pre hU hWm (s_cut hS.1 hC) hK (s_cutD hS.2.1 hnd hC)⟩ rfl hn hl.1 hst (lv_room hW) hdg ⟨Nat.zero_le _, Nat.zero_le _⟩) hS.2.2 (fun q _ h => hF q h) hF (fun r1 u t H1 locs1 ht hvm hw hB hz1 hk1 hS1 => ?_)
  obtain ⟨hP1, hD1⟩ := hB
  rw [ht] at hP1
  have hP2 := s_join0 hS.1 hS.2.1 isC hC hk1 hP1
  rw [show r1 = r from hw]
  exact kk H1 locs1 ⟨hP2, hS.2.1, hS1⟩
end SU
section SUX
variable {p : Program} {l : Launch} {e : Env} {R : Room} {s : State} {m : MethodId} {args : Array Value} {below : List Frame} {meth : Method} {c : Code} {H : Heap} {locs : List Loc} {Q : State → Prop} {cc : ByteArray} {pc : Nat} {ls : Array Slot} {rest : List Value} {D : va_G} {cl : List vw_C} {tys : List (ClassId × FieldType)} {A : Nat → Prop} {ws : va_W} {aS vS : Nat → Nat}
variable {y : MethodName} {bytes : ByteArray} {maxL nL index n : Nat} {ret : Option FieldType} {Ts wsW : List Cond} {rm : Room} {own C : String} {b : Nat} {As st0 : List Value} {wc w1 ws' : va_W} {lv : List (Nat × Value)}
theorem ux_calliV {r : Int32} (hx : p.tables.exec = Jvm.exec) (hb : c.code = cc) (hml : c.maxLocals = nL) (hown : s.vm.findClass own = some m.cls) (hts : ∀ w ∈ Ts, w.before args s = true) (hK : sK D cl tys s) (hX : sX aS vS A s s.heap) (hA : ∀ q, s.heap.size ≤ q → A q) (hl : lv_has ls nL lv) (hS : sS D cl A s.heap ws H locs)
    (hM : Met l y wsW rm (sPx D cl tys (.ref b :: As) wc H.size aS vS) (sQi D cl wc wc H.size r) 0 0 (va_A wc H.size)) (cw : CallW R s args own C index y bytes maxL ret wsW rm 0 0 n) (hrc : ∃ cellB : Cell, H[b]? = some cellB ∧ cellB.vm.isStatics = false ∧ s.vm.findClass C = some cellB.cls)
    (isC : List Nat) (hC : isC.map (fun i => ws[i]?) = wc.map some) (hnd : va_nd isC = true) (hn : As.length = n) (hst : st0 = As.reverse ++ .ref b :: rest) (hW : (rest.map fun v => v.category).sum ≤ 8) (hdg : decode cc pc = .ok (.invokevirtual index, 3))
    (kk : ∀ (H1 : Heap) (locs1 : List Loc), sS D cl A s.heap ws H1 locs1 → W p l e R s m args below meth c H1 locs1 0 0 Q (F0 m (pc + 3) ls (.int r :: rest))) : W p l e R s m args below meth c H locs 0 0 Q (F0 m pc ls st0) := by
  have hF := s_freeC hS hA hC
  refine va_calli (va_runV (As := As) (rest := rest) ⟨hx, hb, hml, hown, hts⟩ hM cw ⟨x_blind, hrc, fun U hU hWm => x_pre hU hWm (s_cut hS.1 hC) hK (s_cutD hS.2.1 hnd hC) hX hS.2.2 hF⟩ rfl hn hl.1 hst (lv_room hW) hdg ⟨Nat.zero_le _, Nat.zero_le _⟩) hS.2.2 (fun q _ h => hF q h) hF (fun r1 u t H1 locs1 ht hvm hw hB hz1 hk1 hS1 => ?_)
  obtain ⟨hP1, hD1⟩ := hB
  rw [ht] at hP1
  have hP2 := s_join0 hS.1 hS.2.1 isC hC hk1 hP1
  rw [show r1 = r from hw]
  exact kk H1 locs1 ⟨hP2, hS.2.1, hS1⟩
end SUX
