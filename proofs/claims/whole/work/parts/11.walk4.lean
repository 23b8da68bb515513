/-! a call's world behind it, by places: each cell is the old one (inl) or the callee's (inr) -/
def s_pick (ws w1 : va_W) : Nat ⊕ Nat → Option (Nat × va_E)
  | .inl i => ws[i]?
  | .inr j => w1[j]?
def s_okN (isN : List (Nat ⊕ Nat)) (isC : List Nat) : Bool := (isN.map (Sum.elim some (fun j => isC[j]?)) == (List.range isN.length).map some) && isN.all (fun x => match x with | .inl i => !(isC.contains i) | .inr _ => true)
theorem s_pick_get {ws w1 ws' : va_W} {isN : List (Nat ⊕ Nat)} {isC : List Nat} (hr : isN.map (s_pick ws w1) = ws'.map some) (hok : s_okN isN isC = true) {k : Nat} {q : Nat × va_E} (hq : ws'[k]? = some q) : (ws[k]? = some q ∧ k ∉ isC) ∨ ∃ j : Nat, isC[j]? = some k ∧ w1[j]? = some q := by
  simp only [s_okN, Bool.and_eq_true, beq_iff_eq, List.all_eq_true] at hok
  obtain ⟨h1, h2⟩ := hok
  have e1 : (isN.map (s_pick ws w1))[k]? = some (some q) := by rw [hr, List.getElem?_map, hq]; rfl
  rw [List.getElem?_map] at e1
  cases hx : isN[k]? with
  | none => rw [hx] at e1; cases e1
  | some x =>
    rw [hx] at e1
    have hk : k < isN.length := (List.getElem?_eq_some_iff.mp hx).1
    have e2 : (isN.map (Sum.elim some (fun j => isC[j]?)))[k]? = some (some k) := by
      rw [h1, List.getElem?_map, List.getElem?_range hk]; rfl
    rw [List.getElem?_map, hx] at e2
    have h3 := h2 x (List.mem_of_getElem? hx)
    cases x with
    | inl i =>
      have e3 : i = k := Option.some.inj (Option.some.inj e2)
      subst e3
      refine Or.inl ⟨Option.some.inj e1, fun hm => ?_⟩
      simp [List.contains_iff_mem, hm] at h3
    | inr j => exact Or.inr ⟨j, Option.some.inj e2, Option.some.inj e1⟩
theorem s_pick_adr {ws wc w1 ws' : va_W} {isN : List (Nat ⊕ Nat)} {isC : List Nat} (hC : isC.map (fun i => ws[i]?) = wc.map some) (ha : w1.map (fun q => q.1) = wc.map (fun q => q.1)) (hr : isN.map (s_pick ws w1) = ws'.map some) (hok : s_okN isN isC = true) {k : Nat} {q : Nat × va_E} (hq : ws'[k]? = some q) : ∃ e, ws[k]? = some (q.1, e) := by
  rcases s_pick_get hr hok hq with ⟨h1, -⟩ | ⟨j, h1, h2⟩
  · exact ⟨q.2, h1⟩
  · have e1 : (isC.map (fun i => ws[i]?))[j]? = some (ws[k]?) := by rw [List.getElem?_map, h1]; rfl
    rw [hC, List.getElem?_map] at e1
    have e2 : (w1.map (fun q => q.1))[j]? = some q.1 := by rw [List.getElem?_map, h2]; rfl
    rw [ha, List.getElem?_map] at e2
    cases hx : wc[j]? with
    | none => rw [hx] at e1; cases e1
    | some x =>
      rw [hx] at e1 e2
      have e3 : x.1 = q.1 := Option.some.inj e2
      have e4 : ws[k]? = some x := (Option.some.inj e1).symm
      exact ⟨x.2, by rw [e4, ← e3]⟩
theorem s_join2 {A0 : Nat → Prop} {D : va_G} {cl : List vw_C} {ws wc w1 ws' : va_W} {H H1 : Heap} (hP : va_P D cl ws H) (hD : va_D A0 ws) (isC : List Nat) (hC : isC.map (fun i => ws[i]?) = wc.map some) (ha : w1.map (fun q => q.1) = wc.map (fun q => q.1)) (isN : List (Nat ⊕ Nat)) (hr : isN.map (s_pick ws w1) = ws'.map some) (hok : s_okN isN isC = true)
    (hk : ∀ q : Nat, q < H.size → ¬ va_A wc H.size q → H1[q]? = H[q]?) (hP1 : va_P D cl w1 H1) : va_P D cl ws' H1 ∧ va_D A0 ws' := by
  refine ⟨fun k q hq => ?_, fun i j p q hp hq hpq => ?_, fun k q hq => ?_⟩
  · rcases s_pick_get hr hok hq with ⟨h1, h2⟩ | ⟨j, -, h2⟩
    · have hlt := (hP k q h1).lt
      refine (hP k q h1).kept (hk q.1 hlt fun hA => ?_)
      rcases hA with ⟨k2, e, h⟩ | h
      · have e1 : (isC.map (fun i => ws[i]?))[k2]? = some (some (q.1, e)) := by rw [hC, List.getElem?_map, h]; rfl
        rw [List.getElem?_map] at e1
        cases hi : isC[k2]? with
        | none => rw [hi] at e1; cases e1
        | some i =>
          rw [hi] at e1
          have hik := hD.1 i k (q.1, e) q (Option.some.inj e1) h1 rfl
          subst hik
          exact h2 (List.mem_of_getElem? hi)
      · omega
    · exact hP1 j q h2
  · obtain ⟨e1, h1⟩ := s_pick_adr hC ha hr hok hp
    obtain ⟨e2, h2⟩ := s_pick_adr hC ha hr hok hq
    exact hD.1 i j _ _ h1 h2 hpq
  · obtain ⟨e1, h1⟩ := s_pick_adr hC ha hr hok hq
    exact hD.2 k (q.1, e1) h1
section SR
variable {p : Program} {l : Launch} {e : Env} {R : Room} {s : State} {m : MethodId} {args : Array Value} {below : List Frame} {meth : Method} {c : Code} {H H0 : Heap} {locs : List Loc} {Q : State → Prop} {cc : ByteArray} {pc : Nat} {ls : Array Slot} {rest : List Value} {D : va_G} {cl : List vw_C} {tys : List (ClassId × FieldType)} {A : Nat → Prop} {ws : va_W} {a : Nat}
variable {y : MethodName} {bytes : ByteArray} {maxL nL index n : Nat} {ret : Option FieldType} {Ts wsW : List Cond} {rm : Room} {own C : String} {b : Nat} {As st0 : List Value} {wc w1 ws' : va_W} {lv : List (Nat × Value)}
theorem r_calliV {r : Int32} (hx : p.tables.exec = Jvm.exec) (hb : c.code = cc) (hml : c.maxLocals = nL) (hown : s.vm.findClass own = some m.cls) (hts : ∀ w ∈ Ts, w.before args s = true) (hK : sK D cl tys s) (hA : ∀ q, s.heap.size ≤ q → A q) (hl : lv_has ls nL lv) (hS : sS D cl A s.heap ws H locs)
    (hM : Met l y wsW rm (sPc D cl tys (.ref b :: As) wc H.size) (sQi D cl wc w1 H.size r) 0 0 (va_A wc H.size)) (cw : CallW R s args own C index y bytes maxL ret wsW rm 0 0 n) (qr : Nat) {ci : Nat} {fs : List Value} {T : u_T} {N : Nat} (hr0 : ws[qr]? = some (b, .inr (ci, fs))) (hcl : cl[ci]? = some (C, T, N))
    (isC : List Nat) (hC : isC.map (fun i => ws[i]?) = wc.map some) (hnd : va_nd isC = true) (ha : w1.map (fun q => q.1) = wc.map (fun q => q.1)) (isN : List (Nat ⊕ Nat)) (hr : isN.map (s_pick ws w1) = ws'.map some) (hok : s_okN isN isC = true) (hn : As.length = n) (hst : st0 = As.reverse ++ .ref b :: rest) (hW : (rest.map fun v => v.category).sum ≤ 8) (hdg : decode cc pc = .ok (.invokevirtual index, 3))
    (kk : ∀ (H1 : Heap) (locs1 : List Loc), sS D cl A s.heap ws' H1 locs1 → W p l e R s m args below meth c H1 locs1 0 0 Q (F0 m (pc + 3) ls (.int r :: rest))) : W p l e R s m args below meth c H locs 0 0 Q (F0 m pc ls st0) := by
  have hF := s_freeC hS hA hC
  refine va_calli (va_runV (As := As) (rest := rest) ⟨hx, hb, hml, hown, hts⟩ hM cw ⟨s_blind, va_recv hK.1 hS.1 hcl hr0, fun U hU hWm => s_pre hU hWm (s_cut hS.1 hC) hK (s_cutD hS.2.1 hnd hC)⟩ rfl hn hl.1 hst (lv_room hW) hdg ⟨Nat.zero_le _, Nat.zero_le _⟩) hS.2.2 (fun q _ h => hF q h) hF (fun r1 u t H1 locs1 ht hvm hw hB hz1 hk1 hS1 => ?_)
  obtain ⟨hP1, hD1⟩ := hB
  rw [ht] at hP1
  obtain ⟨hP2, hD2⟩ := s_join2 hS.1 hS.2.1 isC hC ha isN hr hok hk1 hP1
  rw [show r1 = r from hw]
  exact kk H1 locs1 ⟨hP2, hD2, hS1⟩
theorem r_calllV {r : Int64} (hx : p.tables.exec = Jvm.exec) (hb : c.code = cc) (hml : c.maxLocals = nL) (hown : s.vm.findClass own = some m.cls) (hts : ∀ w ∈ Ts, w.before args s = true) (hK : sK D cl tys s) (hA : ∀ q, s.heap.size ≤ q → A q) (hl : lv_has ls nL lv) (hS : sS D cl A s.heap ws H locs)
    (hM : Met l y wsW rm (sPc D cl tys (.ref b :: As) wc H.size) (sQl D cl wc w1 H.size r) 0 0 (va_A wc H.size)) (cw : CallW R s args own C index y bytes maxL ret wsW rm 0 0 n) (qr : Nat) {ci : Nat} {fs : List Value} {T : u_T} {N : Nat} (hr0 : ws[qr]? = some (b, .inr (ci, fs))) (hcl : cl[ci]? = some (C, T, N))
    (isC : List Nat) (hC : isC.map (fun i => ws[i]?) = wc.map some) (hnd : va_nd isC = true) (ha : w1.map (fun q => q.1) = wc.map (fun q => q.1)) (isN : List (Nat ⊕ Nat)) (hr : isN.map (s_pick ws w1) = ws'.map some) (hok : s_okN isN isC = true) (hn : As.length = n) (hst : st0 = As.reverse ++ .ref b :: rest) (hW : (rest.map fun v => v.category).sum ≤ 8) (hdg : decode cc pc = .ok (.invokevirtual index, 3))
    (kk : ∀ (H1 : Heap) (locs1 : List Loc), sS D cl A s.heap ws' H1 locs1 → W p l e R s m args below meth c H1 locs1 0 0 Q (F0 m (pc + 3) ls (.long r :: rest))) : W p l e R s m args below meth c H locs 0 0 Q (F0 m pc ls st0) := by
  have hF := s_freeC hS hA hC
  refine va_calll (va_runV (As := As) (rest := rest) ⟨hx, hb, hml, hown, hts⟩ hM cw ⟨s_blind, va_recv hK.1 hS.1 hcl hr0, fun U hU hWm => s_pre hU hWm (s_cut hS.1 hC) hK (s_cutD hS.2.1 hnd hC)⟩ rfl hn hl.1 hst (lv_room hW) hdg ⟨Nat.zero_le _, Nat.zero_le _⟩) hS.2.2 (fun q _ h => hF q h) hF (fun r1 u t H1 locs1 ht hvm hw hB hz1 hk1 hS1 => ?_)
  obtain ⟨hP1, hD1⟩ := hB
  rw [ht] at hP1
  obtain ⟨hP2, hD2⟩ := s_join2 hS.1 hS.2.1 isC hC ha isN hr hok hk1 hP1
  rw [show r1 = r from hw]
  exact kk H1 locs1 ⟨hP2, hD2, hS1⟩
theorem r_callvV (hx : p.tables.exec = Jvm.exec) (hb : c.code = cc) (hml : c.maxLocals = nL) (hown : s.vm.findClass own = some m.cls) (hts : ∀ w ∈ Ts, w.before args s = true) (hK : sK D cl tys s) (hA : ∀ q, s.heap.size ≤ q → A q) (hl : lv_has ls nL lv) (hS : sS D cl A s.heap ws H locs)
    (hM : Met l y wsW rm (sPc D cl tys (.ref b :: As) wc H.size) (sQv D cl wc w1 H.size) 0 0 (va_A wc H.size)) (cw : CallW R s args own C index y bytes maxL ret wsW rm 0 0 n) (qr : Nat) {ci : Nat} {fs : List Value} {T : u_T} {N : Nat} (hr0 : ws[qr]? = some (b, .inr (ci, fs))) (hcl : cl[ci]? = some (C, T, N))
    (isC : List Nat) (hC : isC.map (fun i => ws[i]?) = wc.map some) (hnd : va_nd isC = true) (ha : w1.map (fun q => q.1) = wc.map (fun q => q.1)) (isN : List (Nat ⊕ Nat)) (hr : isN.map (s_pick ws w1) = ws'.map some) (hok : s_okN isN isC = true) (hn : As.length = n) (hst : st0 = As.reverse ++ .ref b :: rest) (hW : (rest.map fun v => v.category).sum ≤ 8) (hdg : decode cc pc = .ok (.invokevirtual index, 3))
    (kk : ∀ (H1 : Heap) (locs1 : List Loc), sS D cl A s.heap ws' H1 locs1 → W p l e R s m args below meth c H1 locs1 0 0 Q (F0 m (pc + 3) ls rest)) : W p l e R s m args below meth c H locs 0 0 Q (F0 m pc ls st0) := by
  have hF := s_freeC hS hA hC
  refine va_callv (va_runV (As := As) (rest := rest) ⟨hx, hb, hml, hown, hts⟩ hM cw ⟨s_blind, va_recv hK.1 hS.1 hcl hr0, fun U hU hWm => s_pre hU hWm (s_cut hS.1 hC) hK (s_cutD hS.2.1 hnd hC)⟩ rfl hn hl.1 hst (lv_room hW) hdg ⟨Nat.zero_le _, Nat.zero_le _⟩) hS.2.2 (fun q _ h => hF q h) hF (fun u t H1 locs1 ht hvm hw hB hz1 hk1 hS1 => ?_)
  obtain ⟨hP1, hD1⟩ := hB
  rw [ht] at hP1
  obtain ⟨hP2, hD2⟩ := s_join2 hS.1 hS.2.1 isC hC ha isN hr hok hk1 hP1
  exact kk H1 locs1 ⟨hP2, hD2, hS1⟩
theorem r_calliS {r : Int32} (hx : p.tables.exec = Jvm.exec) (hb : c.code = cc) (hml : c.maxLocals = nL) (hown : s.vm.findClass own = some m.cls) (hts : ∀ w ∈ Ts, w.before args s = true) (hK : sK D cl tys s) (hA : ∀ q, s.heap.size ≤ q → A q) (hl : lv_has ls nL lv) (hS : sS D cl A s.heap ws H locs)
    (hM : Met l y wsW rm (sPc D cl tys As wc H.size) (sQi D cl wc w1 H.size r) 0 0 (va_A wc H.size)) (cw : CallB R s args own index y bytes maxL ret wsW rm 0 0 n ∧ (Cond.static y).before args s = true)
    (isC : List Nat) (hC : isC.map (fun i => ws[i]?) = wc.map some) (hnd : va_nd isC = true) (ha : w1.map (fun q => q.1) = wc.map (fun q => q.1)) (isN : List (Nat ⊕ Nat)) (hr : isN.map (s_pick ws w1) = ws'.map some) (hok : s_okN isN isC = true) (hn : As.length = n) (hst : st0 = As.reverse ++ rest) (hW : (rest.map fun v => v.category).sum ≤ 8) (hdg : decode cc pc = .ok (.invokestatic index, 3))
    (kk : ∀ (H1 : Heap) (locs1 : List Loc), sS D cl A s.heap ws' H1 locs1 → W p l e R s m args below meth c H1 locs1 0 0 Q (F0 m (pc + 3) ls (.int r :: rest))) : W p l e R s m args below meth c H locs 0 0 Q (F0 m pc ls st0) := by
  have hF := s_freeC hS hA hC
  refine va_calli (va_runS (As := As) (rest := rest) ⟨hx, hb, hml, hown, hts⟩ hM cw ⟨s_blind, fun U hU hWm => s_pre hU hWm (s_cut hS.1 hC) hK (s_cutD hS.2.1 hnd hC)⟩ rfl hn hl.1 hst (lv_room hW) hdg ⟨Nat.zero_le _, Nat.zero_le _⟩) hS.2.2 (fun q _ h => hF q h) hF (fun r1 u t H1 locs1 ht hvm hw hB hz1 hk1 hS1 => ?_)
  obtain ⟨hP1, hD1⟩ := hB
  rw [ht] at hP1
  obtain ⟨hP2, hD2⟩ := s_join2 hS.1 hS.2.1 isC hC ha isN hr hok hk1 hP1
  rw [show r1 = r from hw]
  exact kk H1 locs1 ⟨hP2, hD2, hS1⟩
theorem r_callvS (hx : p.tables.exec = Jvm.exec) (hb : c.code = cc) (hml : c.maxLocals = nL) (hown : s.vm.findClass own = some m.cls) (hts : ∀ w ∈ Ts, w.before args s = true) (hK : sK D cl tys s) (hA : ∀ q, s.heap.size ≤ q → A q) (hl : lv_has ls nL lv) (hS : sS D cl A s.heap ws H locs)
    (hM : Met l y wsW rm (sPc D cl tys As wc H.size) (sQv D cl wc w1 H.size) 0 0 (va_A wc H.size)) (cw : CallB R s args own index y bytes maxL ret wsW rm 0 0 n ∧ (Cond.static y).before args s = true)
    (isC : List Nat) (hC : isC.map (fun i => ws[i]?) = wc.map some) (hnd : va_nd isC = true) (ha : w1.map (fun q => q.1) = wc.map (fun q => q.1)) (isN : List (Nat ⊕ Nat)) (hr : isN.map (s_pick ws w1) = ws'.map some) (hok : s_okN isN isC = true) (hn : As.length = n) (hst : st0 = As.reverse ++ rest) (hW : (rest.map fun v => v.category).sum ≤ 8) (hdg : decode cc pc = .ok (.invokestatic index, 3))
    (kk : ∀ (H1 : Heap) (locs1 : List Loc), sS D cl A s.heap ws' H1 locs1 → W p l e R s m args below meth c H1 locs1 0 0 Q (F0 m (pc + 3) ls rest)) : W p l e R s m args below meth c H locs 0 0 Q (F0 m pc ls st0) := by
  have hF := s_freeC hS hA hC
  refine va_callv (va_runS (As := As) (rest := rest) ⟨hx, hb, hml, hown, hts⟩ hM cw ⟨s_blind, fun U hU hWm => s_pre hU hWm (s_cut hS.1 hC) hK (s_cutD hS.2.1 hnd hC)⟩ rfl hn hl.1 hst (lv_room hW) hdg ⟨Nat.zero_le _, Nat.zero_le _⟩) hS.2.2 (fun q _ h => hF q h) hF (fun u t H1 locs1 ht hvm hw hB hz1 hk1 hS1 => ?_)
  obtain ⟨hP1, hD1⟩ := hB
  rw [ht] at hP1
  obtain ⟨hP2, hD2⟩ := s_join2 hS.1 hS.2.1 isC hC ha isN hr hok hk1 hP1
  exact kk H1 locs1 ⟨hP2, hD2, hS1⟩
theorem r_calliN {r : Int32} {host : String} (hx : p.tables.exec = Jvm.exec) (hb : c.code = cc) (hml : c.maxLocals = nL) (hown : s.vm.findClass own = some m.cls) (hts : ∀ w ∈ Ts, w.before args s = true) (hK : sK D cl tys s) (hA : ∀ q, s.heap.size ≤ q → A q) (hl : lv_has ls nL lv) (hS : sS D cl A s.heap ws H locs)
    (hM : Met l y wsW rm (sPc D cl tys As wc H.size) (sQi D cl wc w1 H.size r) 0 0 (va_A wc H.size)) (cw : va_CN R s args own index y host bytes maxL ret wsW rm 0 0 n ∧ (Cond.static y).before args s = true ∧ True)
    (isC : List Nat) (hC : isC.map (fun i => ws[i]?) = wc.map some) (hnd : va_nd isC = true) (ha : w1.map (fun q => q.1) = wc.map (fun q => q.1)) (isN : List (Nat ⊕ Nat)) (hr : isN.map (s_pick ws w1) = ws'.map some) (hok : s_okN isN isC = true) (hn : As.length = n) (hst : st0 = As.reverse ++ rest) (hW : (rest.map fun v => v.category).sum ≤ 8) (hdg : decode cc pc = .ok (.invokestatic index, 3))
    (kk : ∀ (H1 : Heap) (locs1 : List Loc), sS D cl A s.heap ws' H1 locs1 → W p l e R s m args below meth c H1 locs1 0 0 Q (F0 m (pc + 3) ls (.int r :: rest))) : W p l e R s m args below meth c H locs 0 0 Q (F0 m pc ls st0) := by
  have hF := s_freeC hS hA hC
  refine va_calli (va_runSN (As := As) (rest := rest) ⟨hx, hb, hml, hown, hts⟩ hM cw ⟨s_blind, fun U hU hWm => s_pre hU hWm (s_cut hS.1 hC) hK (s_cutD hS.2.1 hnd hC)⟩ rfl hn hl.1 hst (lv_room hW) hdg ⟨Nat.zero_le _, Nat.zero_le _⟩) hS.2.2 (fun q _ h => hF q h) hF (fun r1 u t H1 locs1 ht hvm hw hB hz1 hk1 hS1 => ?_)
  obtain ⟨hP1, hD1⟩ := hB
  rw [ht] at hP1
  obtain ⟨hP2, hD2⟩ := s_join2 hS.1 hS.2.1 isC hC ha isN hr hok hk1 hP1
  rw [show r1 = r from hw]
  exact kk H1 locs1 ⟨hP2, hD2, hS1⟩
end SR
