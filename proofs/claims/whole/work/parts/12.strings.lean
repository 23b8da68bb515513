/-! the seven texts of Telling, and the JDK's own methods over them -/
def s_len : List Nat := [3, 3, 3, 4, 2, 6, 6]
def s_byt : List (List Int32) := [[105, 110, 110], [119, 101, 116], [111, 110, 101], [99, 111, 109, 101], [103, 111], [108, 101, 116, 116, 101, 114], [110, 105, 103, 104, 116, 115]]
def s_cpi : List Nat := [64, 27, 36, 41, 46, 51, 56]
def s_txt : List String := ["inn", "wet", "one", "come", "go", "letter", "nights"]
def sX (aS vS : Nat → Nat) (A : Nat → Prop) (U : State) (H : Heap) : Prop := vk_S 7 s_len s_byt aS vS A U H ∧ va_Z "java/lang/String" "COMPACT_STRINGS" "Z" (.int 1) A U H ∧ va_Zq "jdk/internal/util/Preconditions" "SIOOBE_FORMATTER" "Ljava/util/function/BiFunction;" A U H ∧ ∀ i, i < 7 → vk_R "InnTurned$Telling" (s_cpi.getD i 0) (s_txt.getD i "") (aS i) U
theorem sX.same {aS vS : Nat → Nat} {A : Nat → Prop} {U : State} {H : Heap} {g : JFrame} {mk : MethodId} {a : Array Value} (h : sX aS vS A U H) : sX aS vS A (U.calling g mk a) H :=
  ⟨vk_S.moved (u := U) (U := U.calling g mk a) (Vm.Alike.refl U.vm) h.1, va_Z.moved (u := U) (U := U.calling g mk a) (Vm.Alike.refl U.vm) h.2.1, va_Zq.moved (u := U) (U := U.calling g mk a) (Vm.Alike.refl U.vm) h.2.2.1, fun i hi => vk_R.same (u := U) (U := U.calling g mk a) rfl (h.2.2.2 i hi)⟩
theorem sX.warm {aS vS : Nat → Nat} {A : Nat → Prop} {s U : State} {H : Heap} (hW : s.WarmedH U.vm) (h : sX aS vS A s H) : sX aS vS A U H :=
  ⟨vk_S.moved hW.alike h.1, va_Z.moved hW.alike h.2.1, va_Zq.moved hW.alike h.2.2.1, fun i hi => vk_R.warm hW (h.2.2.2 i hi)⟩
theorem sX.kept {aS vS : Nat → Nat} {A : Nat → Prop} {U : State} {H H1 : Heap} (h : sX aS vS A U H) (hq : ∀ a : Nat, a < H.size → ¬ A a → H1[a]? = H[a]?) : sX aS vS A U H1 := ⟨h.1.kept hq, h.2.1.kept hq, h.2.2.1.kept hq, h.2.2.2⟩
theorem sX.narrow {aS vS : Nat → Nat} {A B : Nat → Prop} {U : State} {H : Heap} (h : sX aS vS A U H) (hAB : ∀ q, B q → A q) : sX aS vS B U H := ⟨h.1.narrow hAB, h.2.1.narrow hAB, h.2.2.1.narrow hAB, h.2.2.2⟩
def sPx (D : va_G) (cl : List vw_C) (tys : List (ClassId × FieldType)) (av : List Value) (ws : va_W) (sz : Nat) (aS vS : Nat → Nat) : Array Value → State → Prop := va_Pc av (fun U => U.heap.size = sz ∧ va_P D cl ws U.heap ∧ sK D cl tys U ∧ va_D (fun _ => True) ws ∧ sX aS vS (va_A ws sz) U U.heap)
theorem x_blind {D : va_G} {cl : List vw_C} {tys : List (ClassId × FieldType)} {av : List Value} {ws : va_W} {sz : Nat} {aS vS : Nat → Nat} : FrameBlind (sPx D cl tys av ws sz aS vS) := fun a U g mk q => by
  obtain ⟨h1, h2, h3, h4, h5, h6⟩ := q
  exact ⟨h1, h2, h3, h4.same, h5, h6.same⟩
theorem x_pre {D : va_G} {cl : List vw_C} {tys : List (ClassId × FieldType)} {av : List Value} {wc : va_W} {s U : State} {H : Heap} {A : Nat → Prop} {locs : List Loc} {aS vS : Nat → Nat} (hU : U.heap = H) (hW : s.WarmedH U.vm) (hP : va_P D cl wc H) (hK : sK D cl tys s) (hD : va_D (fun _ => True) wc) (hX : sX aS vS A s s.heap) (hS : va_S A s.heap H locs) (hF : ∀ q, va_A wc H.size q → A q) : sPx D cl tys av wc H.size aS vS av.toArray U := by
  refine ⟨rfl, by rw [hU], by rw [hU]; exact hP, hK.warm hW, hD, ?_⟩
  rw [hU]
  exact ((hX.kept hS.2.1).narrow hF).warm hW
section SX1
variable {p : Program} {l : Launch} {e : Env} {R : Room} {s : State} {m : MethodId} {args : Array Value} {below : List Frame} {meth : Method} {c : Code} {H : Heap} {locs : List Loc} {Q : State → Prop} {cc : ByteArray} {pc : Nat} {ls : Array Slot} {rest : List Value} {D : va_G} {cl : List vw_C} {tys : List (ClassId × FieldType)} {A : Nat → Prop} {ws : va_W} {aS vS : Nat → Nat}
variable {y : MethodName} {bytes : ByteArray} {maxL nL index n : Nat} {ret : Option FieldType} {Ts wsW : List Cond} {rm : Room} {own C : String} {b : Nat} {As st0 : List Value} {wc w1 ws' : va_W} {lv : List (Nat × Value)}
theorem x_calliV {r : Int32} (hx : p.tables.exec = Jvm.exec) (hb : c.code = cc) (hml : c.maxLocals = nL) (hown : s.vm.findClass own = some m.cls) (hts : ∀ w ∈ Ts, w.before args s = true) (hK : sK D cl tys s) (hX : sX aS vS A s s.heap) (hA : ∀ q, s.heap.size ≤ q → A q) (hl : lv_has ls nL lv) (hS : sS D cl A s.heap ws H locs)
    (hM : Met l y wsW rm (sPx D cl tys (.ref b :: As) wc H.size aS vS) (sQi D cl wc w1 H.size r) 0 0 (va_A wc H.size)) (cw : CallW R s args own C index y bytes maxL ret wsW rm 0 0 n) (hrc : ∃ cellB : Cell, H[b]? = some cellB ∧ cellB.vm.isStatics = false ∧ s.vm.findClass C = some cellB.cls)
    (isC : List Nat) (hC : isC.map (fun i => ws[i]?) = wc.map some) (hnd : va_nd isC = true) (ha : w1.map (fun q => q.1) = wc.map (fun q => q.1)) (hr : s_rep ws isC w1 = ws') (hn : As.length = n) (hst : st0 = As.reverse ++ .ref b :: rest) (hW : (rest.map fun v => v.category).sum ≤ 8) (hdg : decode cc pc = .ok (.invokevirtual index, 3))
    (kk : ∀ (H1 : Heap) (locs1 : List Loc), sS D cl A s.heap ws' H1 locs1 → W p l e R s m args below meth c H1 locs1 0 0 Q (F0 m (pc + 3) ls (.int r :: rest))) : W p l e R s m args below meth c H locs 0 0 Q (F0 m pc ls st0) := by
  have hF := s_freeC hS hA hC
  refine va_calli (va_runV (As := As) (rest := rest) ⟨hx, hb, hml, hown, hts⟩ hM cw ⟨x_blind, hrc, fun U hU hWm => x_pre hU hWm (s_cut hS.1 hC) hK (s_cutD hS.2.1 hnd hC) hX hS.2.2 hF⟩ rfl hn hl.1 hst (lv_room hW) hdg ⟨Nat.zero_le _, Nat.zero_le _⟩) hS.2.2 (fun q _ h => hF q h) hF (fun r1 u t H1 locs1 ht hvm hw hB hz1 hk1 hS1 => ?_)
  obtain ⟨hP1, hD1⟩ := hB
  rw [ht] at hP1
  obtain ⟨hP2, hD2⟩ := s_join hS.1 hS.2.1 isC hC ha hr hk1 hP1
  rw [show r1 = r from hw]
  exact kk H1 locs1 ⟨hP2, hD2, hS1⟩
theorem x_calliS {r : Int32} (hx : p.tables.exec = Jvm.exec) (hb : c.code = cc) (hml : c.maxLocals = nL) (hown : s.vm.findClass own = some m.cls) (hts : ∀ w ∈ Ts, w.before args s = true) (hK : sK D cl tys s) (hX : sX aS vS A s s.heap) (hA : ∀ q, s.heap.size ≤ q → A q) (hl : lv_has ls nL lv) (hS : sS D cl A s.heap ws H locs)
    (hM : Met l y wsW rm (sPx D cl tys As wc H.size aS vS) (sQi D cl wc w1 H.size r) 0 0 (va_A wc H.size)) (cw : CallB R s args own index y bytes maxL ret wsW rm 0 0 n ∧ (Cond.static y).before args s = true)
    (isC : List Nat) (hC : isC.map (fun i => ws[i]?) = wc.map some) (hnd : va_nd isC = true) (ha : w1.map (fun q => q.1) = wc.map (fun q => q.1)) (hr : s_rep ws isC w1 = ws') (hn : As.length = n) (hst : st0 = As.reverse ++ rest) (hW : (rest.map fun v => v.category).sum ≤ 8) (hdg : decode cc pc = .ok (.invokestatic index, 3))
    (kk : ∀ (H1 : Heap) (locs1 : List Loc), sS D cl A s.heap ws' H1 locs1 → W p l e R s m args below meth c H1 locs1 0 0 Q (F0 m (pc + 3) ls (.int r :: rest))) : W p l e R s m args below meth c H locs 0 0 Q (F0 m pc ls st0) := by
  have hF := s_freeC hS hA hC
  refine va_calli (va_runS (As := As) (rest := rest) ⟨hx, hb, hml, hown, hts⟩ hM cw ⟨x_blind, fun U hU hWm => x_pre hU hWm (s_cut hS.1 hC) hK (s_cutD hS.2.1 hnd hC) hX hS.2.2 hF⟩ rfl hn hl.1 hst (lv_room hW) hdg ⟨Nat.zero_le _, Nat.zero_le _⟩) hS.2.2 (fun q _ h => hF q h) hF (fun r1 u t H1 locs1 ht hvm hw hB hz1 hk1 hS1 => ?_)
  obtain ⟨hP1, hD1⟩ := hB
  rw [ht] at hP1
  obtain ⟨hP2, hD2⟩ := s_join hS.1 hS.2.1 isC hC ha hr hk1 hP1
  rw [show r1 = r from hw]
  exact kk H1 locs1 ⟨hP2, hD2, hS1⟩
theorem x_callvS (hx : p.tables.exec = Jvm.exec) (hb : c.code = cc) (hml : c.maxLocals = nL) (hown : s.vm.findClass own = some m.cls) (hts : ∀ w ∈ Ts, w.before args s = true) (hK : sK D cl tys s) (hX : sX aS vS A s s.heap) (hA : ∀ q, s.heap.size ≤ q → A q) (hl : lv_has ls nL lv) (hS : sS D cl A s.heap ws H locs)
    (hM : Met l y wsW rm (sPx D cl tys As wc H.size aS vS) (sQv D cl wc w1 H.size) 0 0 (va_A wc H.size)) (cw : CallB R s args own index y bytes maxL ret wsW rm 0 0 n ∧ (Cond.static y).before args s = true)
    (isC : List Nat) (hC : isC.map (fun i => ws[i]?) = wc.map some) (hnd : va_nd isC = true) (ha : w1.map (fun q => q.1) = wc.map (fun q => q.1)) (hr : s_rep ws isC w1 = ws') (hn : As.length = n) (hst : st0 = As.reverse ++ rest) (hW : (rest.map fun v => v.category).sum ≤ 8) (hdg : decode cc pc = .ok (.invokestatic index, 3))
    (kk : ∀ (H1 : Heap) (locs1 : List Loc), sS D cl A s.heap ws' H1 locs1 → W p l e R s m args below meth c H1 locs1 0 0 Q (F0 m (pc + 3) ls rest)) : W p l e R s m args below meth c H locs 0 0 Q (F0 m pc ls st0) := by
  have hF := s_freeC hS hA hC
  refine va_callv (va_runS (As := As) (rest := rest) ⟨hx, hb, hml, hown, hts⟩ hM cw ⟨x_blind, fun U hU hWm => x_pre hU hWm (s_cut hS.1 hC) hK (s_cutD hS.2.1 hnd hC) hX hS.2.2 hF⟩ rfl hn hl.1 hst (lv_room hW) hdg ⟨Nat.zero_le _, Nat.zero_le _⟩) hS.2.2 (fun q _ h => hF q h) hF (fun u t H1 locs1 ht hvm hw hB hz1 hk1 hS1 => ?_)
  obtain ⟨hP1, hD1⟩ := hB
  rw [ht] at hP1
  obtain ⟨hP2, hD2⟩ := s_join hS.1 hS.2.1 isC hC ha hr hk1 hP1
  exact kk H1 locs1 ⟨hP2, hD2, hS1⟩
end SX1
section SX2
variable {l : Launch} {y : MethodName} {Ts Ts' : List Cond} {cc : ByteArray} {nL : Nat} {rm : Room} {D : va_G} {tys : List (ClassId × FieldType)} {av : List Value} {ws w1 : va_W} {sz : Nat} {aS vS : Nat → Nat}
theorem x_enter_n {r : Int32} {rt : FieldType} (hn : narrow rt (.int r) = .int r) (hy : plainName y.cls = true) (hw : Ts = Cond.code y cc nL (some rt) :: Ts') (hlen : (lg_sl av).length ≤ nL)
    (body : ∀ (p : Program) (e : Env) (s : State) (m : MethodId) (args : Array Value) (below : List Frame) (meth : Method) (c : Code) (A : Nat → Prop) (Q : State → Prop) (_ : Cx p s m args c cc nL y.cls Ts D tys A) (_ : sX aS vS A s s.heap)
      (_ : ∀ (pc : Nat) (H : Heap) (locs : List Loc) (ls : Array Slot), decode cc pc = .ok (.ireturn, 1) → sS D vwCl A s.heap w1 H locs → W p l e rm s m args below meth c H locs 0 0 Q (F0 m pc ls [.int r])) (ls : Array Slot), lv_has ls nL (lv_args 0 av) → sS D vwCl A s.heap ws s.heap [] → W p l e rm s m args below meth c s.heap [] 0 0 Q (F0 m 0 ls [])) :
    Met l y Ts rm (sPx D vwCl tys av ws sz aS vS) (sQi D vwCl ws w1 sz r) 0 0 (va_A ws sz) := by
  refine Met.ofW (cc := cc) (maxL := nL) (ret := some rt) hy hw ?_
  intro p e s m args below meth c s₁ B hml hv
  obtain ⟨rfl, hsz, hP, hK, hD0, hX⟩ := hv
  have hlocks := B.notSynchronized
  subst hsz
  have hl := lv_entry av (n := nL) hlen
  rw [lg_entry_eq]
  have hr := B.returns
  refine body p e s m _ below meth c (va_A ws s.heap.size) _ ⟨B.exec, B.bytes, hml, findClass_of_methodNamed B.named, atoms_spec (ws := Ts) B.pre, hK, fun q h => Or.inr h⟩ hX (fun pc H locs ls hd hS => ?_) _ hl ⟨hP, hD0.self, va_S.rf⟩
  exact W.zret B.exec B.bytes hr hn (fun t ht hW => ⟨⟨r, (), rfl, rfl, by rw [ht]; exact hS.1, hS.2.1⟩, hS.2.2.F ht⟩) hS.2.2.2.2 hd
theorem x_enter_z {r : Int32} (hy : plainName y.cls = true) (hw : Ts = Cond.code y cc nL (some .boolean) :: Ts') (hlen : (lg_sl av).length ≤ nL)
    (body : ∀ (p : Program) (e : Env) (s : State) (m : MethodId) (args : Array Value) (below : List Frame) (meth : Method) (c : Code) (A : Nat → Prop) (Q : State → Prop) (_ : Cx p s m args c cc nL y.cls Ts D tys A) (_ : sX aS vS A s s.heap)
      (_ : ∀ (pc : Nat) (H : Heap) (locs : List Loc) (ls : Array Slot), decode cc pc = .ok (.ireturn, 1) → (r = 0 ∨ r = 1) → sS D vwCl A s.heap w1 H locs → W p l e rm s m args below meth c H locs 0 0 Q (F0 m pc ls [.int r])) (ls : Array Slot), lv_has ls nL (lv_args 0 av) → sS D vwCl A s.heap ws s.heap [] → W p l e rm s m args below meth c s.heap [] 0 0 Q (F0 m 0 ls [])) :
    Met l y Ts rm (sPx D vwCl tys av ws sz aS vS) (sQi D vwCl ws w1 sz r) 0 0 (va_A ws sz) := by
  refine Met.ofW (cc := cc) (maxL := nL) (ret := some .boolean) hy hw ?_
  intro p e s m args below meth c s₁ B hml hv
  obtain ⟨rfl, hsz, hP, hK, hD0, hX⟩ := hv
  have hlocks := B.notSynchronized
  subst hsz
  have hl := lv_entry av (n := nL) hlen
  rw [lg_entry_eq]
  have hr := B.returns
  refine body p e s m _ below meth c (va_A ws s.heap.size) _ ⟨B.exec, B.bytes, hml, findClass_of_methodNamed B.named, atoms_spec (ws := Ts) B.pre, hK, fun q h => Or.inr h⟩ hX (fun pc H locs ls hd hz hS => ?_) _ hl ⟨hP, hD0.self, va_S.rf⟩
  have hnar : narrow .boolean (.int r) = .int r := by
    rcases hz with rfl | rfl <;> rfl
  exact W.zret B.exec B.bytes hr hnar (fun t ht hW => ⟨⟨r, (), rfl, rfl, by rw [ht]; exact hS.1, hS.2.1⟩, hS.2.2.F ht⟩) hS.2.2.2.2 hd
theorem x_enter_v (hy : plainName y.cls = true) (hw : Ts = Cond.code y cc nL none :: Ts') (hlen : (lg_sl av).length ≤ nL)
    (body : ∀ (p : Program) (e : Env) (s : State) (m : MethodId) (args : Array Value) (below : List Frame) (meth : Method) (c : Code) (A : Nat → Prop) (Q : State → Prop) (_ : Cx p s m args c cc nL y.cls Ts D tys A) (_ : sX aS vS A s s.heap)
      (_ : ∀ (pc : Nat) (H : Heap) (locs : List Loc) (ls : Array Slot), decode cc pc = .ok (.return_, 1) → sS D vwCl A s.heap w1 H locs → W p l e rm s m args below meth c H locs 0 0 Q (F0 m pc ls [])) (ls : Array Slot), lv_has ls nL (lv_args 0 av) → sS D vwCl A s.heap ws s.heap [] → W p l e rm s m args below meth c s.heap [] 0 0 Q (F0 m 0 ls [])) :
    Met l y Ts rm (sPx D vwCl tys av ws sz aS vS) (sQv D vwCl ws w1 sz) 0 0 (va_A ws sz) := by
  refine Met.ofW (cc := cc) (maxL := nL) (ret := none) hy hw ?_
  intro p e s m args below meth c s₁ B hml hv
  obtain ⟨rfl, hsz, hP, hK, hD0, hX⟩ := hv
  have hlocks := B.notSynchronized
  subst hsz
  have hl := lv_entry av (n := nL) hlen
  rw [lg_entry_eq]
  have hr := B.returns
  refine body p e s m _ below meth c (va_A ws s.heap.size) _ ⟨B.exec, B.bytes, hml, findClass_of_methodNamed B.named, atoms_spec (ws := Ts) B.pre, hK, fun q h => Or.inr h⟩ hX (fun pc H locs ls hd hS => ?_) _ hl ⟨hP, hD0.self, va_S.rf⟩
  exact W.vret B.exec B.bytes hr (fun t ht hW => ⟨⟨(), rfl, trivial, by rw [ht]; exact hS.1, hS.2.1⟩, hS.2.2.F ht⟩) hS.2.2.2.2 hd
end SX2
abbrev rm_J0_coder : Room := { frames := 0, cells := 0, slots := 0, locals := 0 }
set_option maxHeartbeats 4000000 in
set_option maxRecDepth 100000 in
theorem c_J0_coder (l : Launch) (D : va_G) (cI cB cZ : ClassId) (aS vS : Nat → Nat) (i : Nat) (hi : i < 7) (sz : Nat) : Met l yJ0_coder_7d493 wsJ0_coder_7d493 rm_J0_coder (sPx D vwCl (s_tys cI cB cZ) [.ref (aS i)] [] sz aS vS) (sQi D vwCl [] [] sz 0) 0 0 (va_A [] sz) := by
  refine x_enter_n (cc := cJ0_coder_7d493) (nL := 1) (rt := .byte) rfl (by decide) rfl (Nat.le_of_ble_eq_true rfl) ?_
  intro p e s m args below meth c A Q C0 hX hend ls hl hS
  replace hl : lv_has ls 1 [(0, .ref (aS i))] := hl
  obtain ⟨hx, hb, hml, hown, hts, hK, hA⟩ := id C0
  refine va_gets hx hb hX.2.1 hS.2.2 hown (hts (.fieldLink RJ0 38 "java/lang/String" "COMPACT_STRINGS" "Z") (List.mem_of_getElem? (i := 1) rfl)) (fun _ h => h) dJ0_coder_7d493_0 ?_
  refine lv_if_eq (tgt := 13) hx hb dJ0_coder_7d493_3 (by decide) (fun c => absurd c (by decide)) (fun _ => ?_)
  refine lv_aload_n hx hb dJ0_coder_7d493_6 rfl (lv_at hl 0 rfl) ?_
  refine vk_getf hx hb (hX.1.1 i hi).2.1 hS.2.2 hown (hts (.fieldLink RJ0 15 "java/lang/String" "coder" "B") (List.mem_of_getElem? (i := 2) rfl)) (fun _ h => h) dJ0_coder_7d493_7 ?_
  refine lv_goto (tgt := 14) hx hb dJ0_coder_7d493_10 (by decide) ?_
  exact hend _ _ _ _ dJ0_coder_7d493_14 hS
set_option maxHeartbeats 4000000 in
set_option maxRecDepth 100000 in
theorem c_J0_isLatin1 (l : Launch) (D : va_G) (cI cB cZ : ClassId) (aS vS : Nat → Nat) (i : Nat) (hi : i < 7) (sz : Nat) : Met l yJ0_isLatin1_aae02 wsJ0_isLatin1_aae02 rm_J0_coder (sPx D vwCl (s_tys cI cB cZ) [.ref (aS i)] [] sz aS vS) (sQi D vwCl [] [] sz 1) 0 0 (va_A [] sz) := by
  refine x_enter_n (cc := cJ0_isLatin1_aae02) (nL := 1) (rt := .boolean) rfl (by decide) rfl (Nat.le_of_ble_eq_true rfl) ?_
  intro p e s m args below meth c A Q C0 hX hend ls hl hS
  replace hl : lv_has ls 1 [(0, .ref (aS i))] := hl
  obtain ⟨hx, hb, hml, hown, hts, hK, hA⟩ := id C0
  refine va_gets hx hb hX.2.1 hS.2.2 hown (hts (.fieldLink RJ0 38 "java/lang/String" "COMPACT_STRINGS" "Z") (List.mem_of_getElem? (i := 1) rfl)) (fun _ h => h) dJ0_isLatin1_aae02_0 ?_
  refine lv_if_eq (tgt := 17) hx hb dJ0_isLatin1_aae02_3 (by decide) (fun c => absurd c (by decide)) (fun _ => ?_)
  refine lv_aload_n hx hb dJ0_isLatin1_aae02_6 rfl (lv_at hl 0 rfl) ?_
  refine vk_getf hx hb (hX.1.1 i hi).2.1 hS.2.2 hown (hts (.fieldLink RJ0 15 "java/lang/String" "coder" "B") (List.mem_of_getElem? (i := 2) rfl)) (fun _ h => h) dJ0_isLatin1_aae02_7 ?_
  refine lv_if_ne (tgt := 17) hx hb dJ0_isLatin1_aae02_10 (by decide) (fun c => absurd rfl c) (fun _ => ?_)
  refine lv_iconst (v := 1) hx hb dJ0_isLatin1_aae02_13 (by decide) ?_
  refine lv_goto (tgt := 18) hx hb dJ0_isLatin1_aae02_14 (by decide) ?_
  exact hend _ _ _ _ dJ0_isLatin1_aae02_18 hS
abbrev rm_J0_length : Room := { frames := 1, cells := 0, slots := 0, locals := 20 }
def s_lenI : List Int32 := [3, 3, 3, 4, 2, 6, 6]
theorem s_len_ok : ∀ i : Nat, i < 7 → (Int32.ofNat (s_len.getD i 0) >>> ((0 : Int32) &&& 31)) = s_lenI.getD i 0 := by decide +kernel
set_option maxHeartbeats 4000000 in
set_option maxRecDepth 100000 in
theorem c_J0_length_8abf5 (l : Launch) (D : va_G) (cI cB cZ : ClassId) (aS vS : Nat → Nat) (i : Nat) (hi : i < 7) (sz : Nat) : Met l yJ0_length_8abf5 wsJ0_length_8abf5 rm_J0_length (sPx D vwCl (s_tys cI cB cZ) [.ref (aS i)] [] sz aS vS) (sQi D vwCl [] [] sz (s_lenI.getD i 0)) 0 0 (va_A [] sz) := by
  refine x_enter_n (cc := cJ0_length_8abf5) (nL := 1) (rt := .int) rfl (by decide) rfl (Nat.le_of_ble_eq_true rfl) ?_
  intro p e s m args below meth c A Q C0 hX hend ls hl hS
  replace hl : lv_has ls 1 [(0, .ref (aS i))] := hl
  obtain ⟨hx, hb, hml, hown, hts, hK, hA⟩ := id C0
  refine lv_aload_n hx hb dJ0_length_8abf5_0 rfl (lv_at hl 0 rfl) ?_
  refine vk_getf hx hb (hX.1.1 i hi).2.2.1 hS.2.2 hown (hts (.fieldLink RJ0 9 "java/lang/String" "value" "[B") (List.mem_of_getElem? (i := 1) rfl)) (fun _ h => h) dJ0_length_8abf5_1 ?_
  refine va_tlen hx hb (hX.1.1 i hi).2.2.2 hS.2.2 rfl dJ0_length_8abf5_4 ?_
  refine lv_aload_n hx hb dJ0_length_8abf5_5 rfl (lv_at hl 0 rfl) ?_
  refine x_calliV (r := 0) (As := []) (rest := [.int (Int32.ofNat (s_len.getD i 0))]) (wc := []) (w1 := []) (ws' := []) hx hb hml hown hts hK hX hA hl hS (c_J0_coder l D cI cB cZ aS vS i hi _) (cwV 0 hts gJ0_length_8abf5_J0_coder_7d493 rfl rfl rfl (by decide +kernel) ⟨Nat.le_of_ble_eq_true rfl, Nat.le_of_ble_eq_true rfl⟩) (vk_recv hX.1 hi hS.2.2) [] rfl rfl rfl rfl rfl rfl (Nat.le_of_ble_eq_true rfl) dJ0_length_8abf5_6 (fun H locs hS => ?_)
  refine lv_ishr hx hb dJ0_length_8abf5_9 ?_
  rw [s_len_ok i hi]
  exact hend _ _ _ _ dJ0_length_8abf5_10 hS
set_option maxHeartbeats 4000000 in
set_option maxRecDepth 100000 in
theorem c_J3_checkIndex (l : Launch) (D : va_G) (cI cB cZ : ClassId) (aS vS : Nat → Nat) (k n : Int32) (v : Value) (hv : v = .null ∨ ∃ t, v = .ref t) (h0 : ¬ k < 0) (h1 : k < n) (sz : Nat) : Met l yJ3_checkIndex_8e157 wsJ3_checkIndex_8e157 rm_J0_coder (sPx D vwCl (s_tys cI cB cZ) [.int k, .int n, v] [] sz aS vS) (sQi D vwCl [] [] sz k) 0 0 (va_A [] sz) := by
  rcases hv with rfl | ⟨t, rfl⟩
  · refine x_enter_n (cc := cJ3_checkIndex_8e157) (nL := 3) (rt := .int) rfl (by decide) rfl (Nat.le_of_ble_eq_true rfl) ?_
    intro p e s m args below meth c A Q C0 hX hend ls hl hS
    replace hl : lv_has ls 3 [(0, .int k), (1, .int n), (2, .null)] := hl
    obtain ⟨hx, hb, hml, hown, hts, hK, hA⟩ := id C0
    refine lv_iload_n hx hb dJ3_checkIndex_8e157_0 rfl (lv_at hl 0 rfl) ?_
    refine lv_if_lt (tgt := 9) hx hb dJ3_checkIndex_8e157_1 (by decide) (fun c => absurd c h0) (fun _ => ?_)
    refine lv_iload_n hx hb dJ3_checkIndex_8e157_4 rfl (lv_at hl 0 rfl) ?_
    refine lv_iload_n hx hb dJ3_checkIndex_8e157_5 rfl (lv_at hl 1 rfl) ?_
    refine lv_icmp_lt (tgt := 16) hx hb dJ3_checkIndex_8e157_6 (by decide) (fun _ => ?_) (fun c => absurd h1 c)
    refine lv_iload_n hx hb dJ3_checkIndex_8e157_16 rfl (lv_at hl 0 rfl) ?_
    exact hend _ _ _ _ dJ3_checkIndex_8e157_17 hS
  · refine x_enter_n (cc := cJ3_checkIndex_8e157) (nL := 3) (rt := .int) rfl (by decide) rfl (Nat.le_of_ble_eq_true rfl) ?_
    intro p e s m args below meth c A Q C0 hX hend ls hl hS
    replace hl : lv_has ls 3 [(0, .int k), (1, .int n), (2, .ref t)] := hl
    obtain ⟨hx, hb, hml, hown, hts, hK, hA⟩ := id C0
    refine lv_iload_n hx hb dJ3_checkIndex_8e157_0 rfl (lv_at hl 0 rfl) ?_
    refine lv_if_lt (tgt := 9) hx hb dJ3_checkIndex_8e157_1 (by decide) (fun c => absurd c h0) (fun _ => ?_)
    refine lv_iload_n hx hb dJ3_checkIndex_8e157_4 rfl (lv_at hl 0 rfl) ?_
    refine lv_iload_n hx hb dJ3_checkIndex_8e157_5 rfl (lv_at hl 1 rfl) ?_
    refine lv_icmp_lt (tgt := 16) hx hb dJ3_checkIndex_8e157_6 (by decide) (fun _ => ?_) (fun c => absurd h1 c)
    refine lv_iload_n hx hb dJ3_checkIndex_8e157_16 rfl (lv_at hl 0 rfl) ?_
    exact hend _ _ _ _ dJ3_checkIndex_8e157_17 hS
abbrev rm_J0_checkIndex : Room := { frames := 1, cells := 0, slots := 0, locals := 22 }
set_option maxHeartbeats 4000000 in
set_option maxRecDepth 100000 in
theorem c_J0_checkIndex (l : Launch) (D : va_G) (cI cB cZ : ClassId) (aS vS : Nat → Nat) (k n : Int32) (h0 : ¬ k < 0) (h1 : k < n) (sz : Nat) : Met l yJ0_checkIndex_df160 wsJ0_checkIndex_df160 rm_J0_checkIndex (sPx D vwCl (s_tys cI cB cZ) [.int k, .int n] [] sz aS vS) (sQv D vwCl [] [] sz) 0 0 (va_A [] sz) := by
  refine x_enter_v (cc := cJ0_checkIndex_df160) (nL := 2) (by decide) rfl (Nat.le_of_ble_eq_true rfl) ?_
  intro p e s m args below meth c A Q C0 hX hend ls hl hS
  replace hl : lv_has ls 2 [(0, .int k), (1, .int n)] := hl
  obtain ⟨hx, hb, hml, hown, hts, hK, hA⟩ := id C0
  refine lv_iload_n hx hb dJ0_checkIndex_df160_0 rfl (lv_at hl 0 rfl) ?_
  refine lv_iload_n hx hb dJ0_checkIndex_df160_1 rfl (lv_at hl 1 rfl) ?_
  obtain ⟨v, hv, hc, hZ⟩ : ∃ v : Value, (v = .null ∨ ∃ t, v = .ref t) ∧ v.category = 1 ∧ va_Z "jdk/internal/util/Preconditions" "SIOOBE_FORMATTER" "Ljava/util/function/BiFunction;" v A s s.heap := by
    rcases hX.2.2.1 with h | ⟨t, h⟩
    · exact ⟨.null, Or.inl rfl, rfl, h⟩
    · exact ⟨.ref t, Or.inr ⟨t, rfl⟩, rfl, h⟩
  refine va_gets hx hb hZ hS.2.2 hown (hts (.fieldLink RJ0 1053 "jdk/internal/util/Preconditions" "SIOOBE_FORMATTER" "Ljava/util/function/BiFunction;") (List.mem_of_getElem? (i := 1) rfl)) (fun _ h => h) dJ0_checkIndex_df160_2 ?_
  refine x_calliS (r := k) (As := [.int k, .int n, v]) (rest := []) (wc := []) (w1 := []) (ws' := []) hx hb hml hown hts hK hX hA hl hS (c_J3_checkIndex l D cI cB cZ aS vS k n v hv h0 h1 _) (va_cwS 3 hts gJ0_checkIndex_df160_J3_checkIndex_8e157 rfl rfl rfl (by decide +kernel) ⟨Nat.le_of_ble_eq_true rfl, Nat.le_of_ble_eq_true rfl⟩) [] rfl rfl rfl rfl rfl rfl (Nat.le_of_ble_eq_true rfl) dJ0_checkIndex_df160_5 (fun H locs hS => ?_)
  refine lv_pop hx hb dJ0_checkIndex_df160_8 rfl ?_
  exact hend _ _ _ _ dJ0_checkIndex_df160_9 hS
abbrev rm_J1_charAt : Room := { frames := 2, cells := 0, slots := 0, locals := 43 }
theorem s_chr_ok : ∀ i : Nat, i < 7 → ∀ k : Nat, k < s_len.getD i 0 → ((Int32.toUInt32 ((s_byt.getD i []).getD k 0 &&& 255) % 65536).toInt32) = (s_byt.getD i []).getD k 0 ∧ narrow .char (.int ((s_byt.getD i []).getD k 0)) = .int ((s_byt.getD i []).getD k 0) := by decide +kernel
theorem s_idx {k : Int32} {n : Nat} (h : ¬ (k < 0 ∨ n ≤ k.toNatClampNeg)) (hn : n < 2 ^ 31) : (¬ k < 0) ∧ k < Int32.ofNat n := by
  have h0 : ¬ k < 0 := fun q => h (Or.inl q)
  have h1 : k.toNatClampNeg < n := Nat.not_le.mp fun q => h (Or.inr q)
  refine ⟨h0, ?_⟩
  rw [Int32.lt_iff_toInt_lt]
  have e1 : (Int32.ofNat n).toInt = (n : Int) := nI_toInt hn
  rw [e1]
  have h2 : k.toInt.toNat < n := h1
  omega
set_option maxHeartbeats 4000000 in
set_option maxRecDepth 100000 in
theorem c_J1_charAt (l : Launch) (D : va_G) (cI cB cZ : ClassId) (aS vS : Nat → Nat) (i : Nat) (hi : i < 7) (k : Int32) (hk : ¬ (k < 0 ∨ s_len.getD i 0 ≤ k.toNatClampNeg)) (sz : Nat) : Met l yJ1_charAt_3b067 wsJ1_charAt_3b067 rm_J1_charAt (sPx D vwCl (s_tys cI cB cZ) [.ref (vS i), .int k] [] sz aS vS) (sQi D vwCl [] [] sz ((s_byt.getD i []).getD k.toNatClampNeg 0)) 0 0 (va_A [] sz) := by
  have hk1 : k.toNatClampNeg < s_len.getD i 0 := Nat.not_le.mp fun q => hk (Or.inr q)
  have hch := s_chr_ok i hi _ hk1
  have hln : s_len.getD i 0 < 2 ^ 31 := (show ∀ i : Nat, i < 7 → s_len.getD i 0 < 2 ^ 31 by decide) i hi
  obtain ⟨h0, h1⟩ := s_idx hk hln
  refine x_enter_n (cc := cJ1_charAt_3b067) (nL := 2) (rt := .char) hch.2 (by decide) rfl (Nat.le_of_ble_eq_true rfl) ?_
  intro p e s m args below meth c A Q C0 hX hend ls hl hS
  replace hl : lv_has ls 2 [(0, .ref (vS i)), (1, .int k)] := hl
  obtain ⟨hx, hb, hml, hown, hts, hK, hA⟩ := id C0
  refine lv_iload_n hx hb dJ1_charAt_3b067_0 rfl (lv_at hl 1 rfl) ?_
  refine lv_aload_n hx hb dJ1_charAt_3b067_1 rfl (lv_at hl 0 rfl) ?_
  refine va_tlen hx hb (hX.1.1 i hi).2.2.2 hS.2.2 rfl dJ1_charAt_3b067_2 ?_
  refine x_callvS (As := [.int k, .int (Int32.ofNat (s_len.getD i 0))]) (rest := []) (wc := []) (w1 := []) (ws' := []) hx hb hml hown hts hK hX hA hl hS (c_J0_checkIndex l D cI cB cZ aS vS k _ h0 h1 _) (va_cwS 2 hts gJ1_charAt_3b067_J0_checkIndex_df160 rfl rfl rfl (by decide +kernel) ⟨Nat.le_of_ble_eq_true rfl, Nat.le_of_ble_eq_true rfl⟩) [] rfl rfl rfl rfl rfl rfl (Nat.le_of_ble_eq_true rfl) dJ1_charAt_3b067_3 (fun H locs hS => ?_)
  refine lv_aload_n hx hb dJ1_charAt_3b067_6 rfl (lv_at hl 0 rfl) ?_
  refine lv_iload_n hx hb dJ1_charAt_3b067_7 rfl (lv_at hl 1 rfl) ?_
  refine va_tb hx hb (hX.1.1 i hi).2.2.2 hS.2.2 hk rfl dJ1_charAt_3b067_8 ?_
  refine lv_sipush (v := 255) hx hb dJ1_charAt_3b067_9 (by decide) ?_
  refine lv_iand hx hb dJ1_charAt_3b067_12 ?_
  refine lv_i2c hx hb dJ1_charAt_3b067_13 hch.1 ?_
  exact hend _ _ _ _ dJ1_charAt_3b067_14 hS
abbrev rm_J0_charAt : Room := { frames := 3, cells := 0, slots := 0, locals := 64 }
set_option maxHeartbeats 4000000 in
set_option maxRecDepth 100000 in
theorem c_J0_charAt_5068e (l : Launch) (D : va_G) (cI cB cZ : ClassId) (aS vS : Nat → Nat) (i : Nat) (hi : i < 7) (k : Int32) (hk : ¬ (k < 0 ∨ s_len.getD i 0 ≤ k.toNatClampNeg)) (sz : Nat) : Met l yJ0_charAt_5068e wsJ0_charAt_5068e rm_J0_charAt (sPx D vwCl (s_tys cI cB cZ) [.ref (aS i), .int k] [] sz aS vS) (sQi D vwCl [] [] sz ((s_byt.getD i []).getD k.toNatClampNeg 0)) 0 0 (va_A [] sz) := by
  have hk1 : k.toNatClampNeg < s_len.getD i 0 := Nat.not_le.mp fun q => hk (Or.inr q)
  have hch := s_chr_ok i hi _ hk1
  refine x_enter_n (cc := cJ0_charAt_5068e) (nL := 2) (rt := .char) hch.2 (by decide) rfl (Nat.le_of_ble_eq_true rfl) ?_
  intro p e s m args below meth c A Q C0 hX hend ls hl hS
  replace hl : lv_has ls 2 [(0, .ref (aS i)), (1, .int k)] := hl
  obtain ⟨hx, hb, hml, hown, hts, hK, hA⟩ := id C0
  refine lv_aload_n hx hb dJ0_charAt_5068e_0 rfl (lv_at hl 0 rfl) ?_
  refine x_calliV (r := 1) (As := []) (rest := []) (wc := []) (w1 := []) (ws' := []) hx hb hml hown hts hK hX hA hl hS (c_J0_isLatin1 l D cI cB cZ aS vS i hi _) (cwV 0 hts gJ0_charAt_5068e_J0_isLatin1_aae02 rfl rfl rfl (by decide +kernel) ⟨Nat.le_of_ble_eq_true rfl, Nat.le_of_ble_eq_true rfl⟩) (vk_recv hX.1 hi hS.2.2) [] rfl rfl rfl rfl rfl rfl (Nat.le_of_ble_eq_true rfl) dJ0_charAt_5068e_1 (fun H locs hS => ?_)
  refine lv_if_eq (tgt := 16) hx hb dJ0_charAt_5068e_4 (by decide) (fun c => absurd c (by decide)) (fun _ => ?_)
  refine lv_aload_n hx hb dJ0_charAt_5068e_7 rfl (lv_at hl 0 rfl) ?_
  refine vk_getf hx hb (hX.1.1 i hi).2.2.1 hS.2.2 hown (hts (.fieldLink RJ0 9 "java/lang/String" "value" "[B") (List.mem_of_getElem? (i := 1) rfl)) (fun _ h => h) dJ0_charAt_5068e_8 ?_
  refine lv_iload_n hx hb dJ0_charAt_5068e_11 rfl (lv_at hl 1 rfl) ?_
  refine x_calliS (r := (s_byt.getD i []).getD k.toNatClampNeg 0) (As := [.ref (vS i), .int k]) (rest := []) (wc := []) (w1 := []) (ws' := []) hx hb hml hown hts hK hX hA hl hS (c_J1_charAt l D cI cB cZ aS vS i hi k hk _) (va_cwS 2 hts gJ0_charAt_5068e_J1_charAt_3b067 rfl rfl rfl (by decide +kernel) ⟨Nat.le_of_ble_eq_true rfl, Nat.le_of_ble_eq_true rfl⟩) [] rfl rfl rfl rfl rfl rfl (Nat.le_of_ble_eq_true rfl) dJ0_charAt_5068e_12 (fun H locs hS => ?_)
  exact hend _ _ _ _ dJ0_charAt_5068e_15 hS
def f_J0_length_8abf5 (i : Nat) : Option Int32 := if i < 7 then some (s_lenI.getD i 0) else none
def f_J0_charAt_5068e (i : Nat) (k : Int32) : Option Int32 := if i < 7 ∧ ¬ (k < 0 ∨ s_len.getD i 0 ≤ k.toNatClampNeg) then some ((s_byt.getD i []).getD k.toNatClampNeg 0) else none
section SX3
variable {p : Program} {l : Launch} {e : Env} {R : Room} {s : State} {m : MethodId} {args : Array Value} {below : List Frame} {meth : Method} {c : Code} {H : Heap} {locs : List Loc} {Q : State → Prop} {cc : ByteArray} {pc : Nat} {ls : Array Slot} {rest : List Value} {D : va_G} {cl : List vw_C} {tys : List (ClassId × FieldType)} {A : Nat → Prop} {ws : va_W} {aS vS : Nat → Nat}
variable {y : MethodName} {bytes : ByteArray} {maxL nL index n : Nat} {ret : Option FieldType} {Ts wsW : List Cond} {rm : Room} {own C : String} {b : Nat} {As st0 : List Value} {wc w1 ws' : va_W} {lv : List (Nat × Value)}
theorem rx_calliV {r : Int32} (hx : p.tables.exec = Jvm.exec) (hb : c.code = cc) (hml : c.maxLocals = nL) (hown : s.vm.findClass own = some m.cls) (hts : ∀ w ∈ Ts, w.before args s = true) (hK : sK D cl tys s) (hX : sX aS vS A s s.heap) (hA : ∀ q, s.heap.size ≤ q → A q) (hl : lv_has ls nL lv) (hS : sS D cl A s.heap ws H locs)
    (hM : Met l y wsW rm (sPx D cl tys (.ref b :: As) wc H.size aS vS) (sQi D cl wc w1 H.size r) 0 0 (va_A wc H.size)) (cw : CallW R s args own C index y bytes maxL ret wsW rm 0 0 n) (hrc : ∃ cellB : Cell, H[b]? = some cellB ∧ cellB.vm.isStatics = false ∧ s.vm.findClass C = some cellB.cls)
    (isC : List Nat) (hC : isC.map (fun i => ws[i]?) = wc.map some) (hnd : va_nd isC = true) (ha : w1.map (fun q => q.1) = wc.map (fun q => q.1)) (isN : List (Nat ⊕ Nat)) (hr : isN.map (s_pick ws w1) = ws'.map some) (hok : s_okN isN isC = true) (hn : As.length = n) (hst : st0 = As.reverse ++ .ref b :: rest) (hW : (rest.map fun v => v.category).sum ≤ 8) (hdg : decode cc pc = .ok (.invokevirtual index, 3))
    (kk : ∀ (H1 : Heap) (locs1 : List Loc), sS D cl A s.heap ws' H1 locs1 → W p l e R s m args below meth c H1 locs1 0 0 Q (F0 m (pc + 3) ls (.int r :: rest))) : W p l e R s m args below meth c H locs 0 0 Q (F0 m pc ls st0) := by
  have hF := s_freeC hS hA hC
  refine va_calli (va_runV (As := As) (rest := rest) ⟨hx, hb, hml, hown, hts⟩ hM cw ⟨x_blind, hrc, fun U hU hWm => x_pre hU hWm (s_cut hS.1 hC) hK (s_cutD hS.2.1 hnd hC) hX hS.2.2 hF⟩ rfl hn hl.1 hst (lv_room hW) hdg ⟨Nat.zero_le _, Nat.zero_le _⟩) hS.2.2 (fun q _ h => hF q h) hF (fun r1 u t H1 locs1 ht hvm hw hB hz1 hk1 hS1 => ?_)
  obtain ⟨hP1, hD1⟩ := hB
  rw [ht] at hP1
  obtain ⟨hP2, hD2⟩ := s_join2 hS.1 hS.2.1 isC hC ha isN hr hok hk1 hP1
  rw [show r1 = r from hw]
  exact kk H1 locs1 ⟨hP2, hD2, hS1⟩
theorem rx_calliS {r : Int32} (hx : p.tables.exec = Jvm.exec) (hb : c.code = cc) (hml : c.maxLocals = nL) (hown : s.vm.findClass own = some m.cls) (hts : ∀ w ∈ Ts, w.before args s = true) (hK : sK D cl tys s) (hX : sX aS vS A s s.heap) (hA : ∀ q, s.heap.size ≤ q → A q) (hl : lv_has ls nL lv) (hS : sS D cl A s.heap ws H locs)
    (hM : Met l y wsW rm (sPx D cl tys As wc H.size aS vS) (sQi D cl wc w1 H.size r) 0 0 (va_A wc H.size)) (cw : CallB R s args own index y bytes maxL ret wsW rm 0 0 n ∧ (Cond.static y).before args s = true)
    (isC : List Nat) (hC : isC.map (fun i => ws[i]?) = wc.map some) (hnd : va_nd isC = true) (ha : w1.map (fun q => q.1) = wc.map (fun q => q.1)) (isN : List (Nat ⊕ Nat)) (hr : isN.map (s_pick ws w1) = ws'.map some) (hok : s_okN isN isC = true) (hn : As.length = n) (hst : st0 = As.reverse ++ rest) (hW : (rest.map fun v => v.category).sum ≤ 8) (hdg : decode cc pc = .ok (.invokestatic index, 3))
    (kk : ∀ (H1 : Heap) (locs1 : List Loc), sS D cl A s.heap ws' H1 locs1 → W p l e R s m args below meth c H1 locs1 0 0 Q (F0 m (pc + 3) ls (.int r :: rest))) : W p l e R s m args below meth c H locs 0 0 Q (F0 m pc ls st0) := by
  have hF := s_freeC hS hA hC
  refine va_calli (va_runS (As := As) (rest := rest) ⟨hx, hb, hml, hown, hts⟩ hM cw ⟨x_blind, fun U hU hWm => x_pre hU hWm (s_cut hS.1 hC) hK (s_cutD hS.2.1 hnd hC) hX hS.2.2 hF⟩ rfl hn hl.1 hst (lv_room hW) hdg ⟨Nat.zero_le _, Nat.zero_le _⟩) hS.2.2 (fun q _ h => hF q h) hF (fun r1 u t H1 locs1 ht hvm hw hB hz1 hk1 hS1 => ?_)
  obtain ⟨hP1, hD1⟩ := hB
  rw [ht] at hP1
  obtain ⟨hP2, hD2⟩ := s_join2 hS.1 hS.2.1 isC hC ha isN hr hok hk1 hP1
  rw [show r1 = r from hw]
  exact kk H1 locs1 ⟨hP2, hD2, hS1⟩
end SX3
