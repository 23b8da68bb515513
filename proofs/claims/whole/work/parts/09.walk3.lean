/-! rows for constructors: cells and slots are counted -/
def sQc (ws : va_W) (sz : Nat) (B : State → Prop) : Array Value → State → Outcome → State → Prop := va_Qv (fun (_ : Unit) => True) (fun _ t => B t) (va_A ws sz)
section SC
variable {p : Program} {l : Launch} {e : Env} {R : Room} {s : State} {m : MethodId} {args : Array Value} {below : List Frame} {meth : Method} {c : Code} {H H0 : Heap} {locs : List Loc} {cells slots : Nat} {Q : State → Prop} {cc : ByteArray} {pc : Nat} {ls : Array Slot} {rest : List Value} {D : va_G} {cl : List vw_C} {tys : List (ClassId × FieldType)} {A : Nat → Prop} {ws : va_W} {a : Nat}
theorem t_get (hexec : p.tables.exec = Jvm.exec) (hb : c.code = cc) {own ref C : String} {T : u_T} {N ci index : Nat} {Ts : List Cond} (hts : ∀ w ∈ Ts, w.before args s = true) (hin : ∀ w ∈ u_ws C T N, w ∈ Ts) (hown : s.vm.findClass own = some m.cls) (hK : sK D cl tys s) (hS : sS D cl A H0 ws H locs) (q0 : Nat) {fs : List Value} (he : ws[q0]? = some (a, .inr (ci, fs))) (hc : cl[ci]? = some (C, T, N)) (k : Nat) (hk : k < N) (hlink : (Cond.fieldLink own index ref (T k).2.1 (T k).2.2.1).before args s = true) (hsame : ref = (T k).1) {v : Value} (hv : fs[k]? = some v) (hdg : decode cc pc = .ok (.getfield index, 3))
    (kk : W p l e R s m args below meth c H locs cells slots Q (F0 m (pc + 3) ls (v :: rest))) : W p l e R s m args below meth c H locs cells slots Q (F0 m pc ls (.ref a :: rest)) :=
  va_get hexec hb hts hin hown hK.1 hS.1 q0 he hc k hk hlink (fun _ h => hsame ▸ h) hv hdg kk
theorem t_put (hexec : p.tables.exec = Jvm.exec) (hb : c.code = cc) {own ref C : String} {T : u_T} {N ci index : Nat} {Ts : List Cond} (hts : ∀ w ∈ Ts, w.before args s = true) (hin : ∀ w ∈ u_ws C T N, w ∈ Ts) (ty0 : Nat → FieldType) (hty : ∀ k, k < N → parseFieldDescriptor (T k).2.2.1 = some (ty0 k)) (hnm : ∀ a, a < N → ∀ b, b < N → a ≠ b → (T a).2.1 ≠ (T b).2.1) (hown : s.vm.findClass own = some m.cls) (hK : sK D cl tys s) (hS : sS D cl A H0 ws H locs) (q0 : Nat) {fs : List Value} (he : ws[q0]? = some (a, .inr (ci, fs))) (hc : cl[ci]? = some (C, T, N)) (k : Nat) (hk : k < N) (hlink : (Cond.fieldLink own index ref (T k).2.1 (T k).2.2.1).before args s = true) (hsame : ref = (T k).1) (hfin : (T k).2.2.2 = false) {v : Value} (hn : narrow (ty0 k) v = v) (hfit : fits (ty0 k) v = true) (hl : k < fs.length) {ws' : va_W} (hw : ws.set q0 (a, .inr (ci, fs.set k v)) = ws')
    (hdg : decode cc pc = .ok (.putfield index, 3)) (kk : ∀ (H1 : Heap) (locs1 : List Loc), sS D cl A H0 ws' H1 locs1 → W p l e R s m args below meth c H1 locs1 cells slots Q (F0 m (pc + 3) ls rest)) : W p l e R s m args below meth c H locs cells slots Q (F0 m pc ls (v :: .ref a :: rest)) :=
  va_put hexec hb hts hin ty0 hty hnm hown hK.1 hS.1 hS.2.1 hS.2.2 q0 he hc k hk hlink (fun _ h => hsame ▸ h) hfin (hty k hk) hn hfit hl hdg (fun H1 locs1 h1 h2 h3 => kk H1 locs1 ⟨hw ▸ h1, hw ▸ h2, h3⟩)
theorem t_putF (hexec : p.tables.exec = Jvm.exec) (hb : c.code = cc) {own ref C : String} {T : u_T} {N ci index : Nat} {Ts : List Cond} (hts : ∀ w ∈ Ts, w.before args s = true) (hin : ∀ w ∈ u_ws C T N, w ∈ Ts) (ty0 : Nat → FieldType) (hty : ∀ k, k < N → parseFieldDescriptor (T k).2.2.1 = some (ty0 k)) (hnm : ∀ a, a < N → ∀ b, b < N → a ≠ b → (T a).2.1 ≠ (T b).2.1) (hown : s.vm.findClass own = some m.cls) (hK : sK D cl tys s) (hS : sS D cl A H0 ws H locs) (q0 : Nat) {fs : List Value} (he : ws[q0]? = some (a, .inr (ci, fs))) (hc : cl[ci]? = some (C, T, N)) (k : Nat) (hk : k < N) (hlink : (Cond.fieldLink own index ref (T k).2.1 (T k).2.2.1).before args s = true) (hsame : ref = (T k).1) (hfin : (T k).2.2.2 = true) (hin2 : meth.name = "<init>") (hdecl : (T k).1 = own) {v : Value} (hn : narrow (ty0 k) v = v) (hfit : fits (ty0 k) v = true) (hl : k < fs.length) {ws' : va_W} (hw : ws.set q0 (a, .inr (ci, fs.set k v)) = ws')
    (hdg : decode cc pc = .ok (.putfield index, 3)) (kk : ∀ (H1 : Heap) (locs1 : List Loc), sS D cl A H0 ws' H1 locs1 → W p l e R s m args below meth c H1 locs1 cells slots Q (F0 m (pc + 3) ls rest)) : W p l e R s m args below meth c H locs cells slots Q (F0 m pc ls (v :: .ref a :: rest)) :=
  va_putF hexec hb hts hin ty0 hty hnm hown hK.1 hS.1 hS.2.1 hS.2.2 q0 he hc k hk hlink (fun _ h => hsame ▸ h) hfin hin2 hdecl (hty k hk) hn hfit hl hdg (fun H1 locs1 h1 h2 h3 => kk H1 locs1 ⟨hw ▸ h1, hw ▸ h2, h3⟩)
theorem t_new (hexec : p.tables.exec = Jvm.exec) (hb : c.code = cc) {own C : String} {T : u_T} {N ci index : Nat} {Ts : List Cond} (hts : ∀ w ∈ Ts, w.before args s = true) (hin : ∀ w ∈ u_ws C T N, w ∈ Ts) (ty : Nat → FieldType) (hty : ∀ k, k < N → parseFieldDescriptor (T k).2.2.1 = some (ty k)) (hown : s.vm.findClass own = some m.cls) (hcl : (Cond.classLink own index C).before args s = true) (hinst : (Cond.instantiable C N).before args s = true) (hini : (Cond.initialized C).before args s = true)
    (hK : sK D cl tys s) (hS : sS D cl A H0 ws H locs) (hA : ∀ q, H0.size ≤ q → A q) (hc : cl[ci]? = some (C, T, N)) (fs : List Value) (hfs : ∀ j, j < N → defaultValue (ty j) = vp_V fs j) {c2 s2 : Nat} (hc2 : cells + 1 = c2) (hs2 : slots + N = s2) (hcells : c2 ≤ R.cells) (hslots : s2 ≤ R.slots) (hdg : decode cc pc = .ok (.new index, 3))
    (kk : ∀ (q : Nat) (H1 : Heap), sS D cl A H0 (ws ++ [(q, .inr (ci, fs))]) H1 locs → W p l e R s m args below meth c H1 locs c2 s2 Q (F0 m (pc + 3) ls (.ref q :: rest))) : W p l e R s m args below meth c H locs cells slots Q (F0 m pc ls rest) := by
  subst hc2 hs2
  exact va_new hexec hb hts hin ty hty hown hcl hinst hini hK.1 hS.1 hS.2.1 hS.2.2 hA hc hfs hcells hslots hdg (fun q H1 h1 h2 h3 => kk q H1 ⟨h1, h2, h3⟩)
theorem t_same {U : State} {D : va_G} {cl : List vw_C} {tys : List (ClassId × FieldType)} {cA c1 : ClassId} {ty : FieldType} (hK : va_K D cl (tys ++ [(cA, ty)]) U) (t0 : Nat) (ht : tys[t0]? = some (c1, ty)) (hprim : ty = .int ∨ ty = .byte ∨ ty = .boolean) : cA = c1 := by
  have h1 := (hK.2 tys.length (cA, ty) (by simp)).2
  have h2 := (hK.2 t0 (c1, ty) (by rw [List.getElem?_append_left (by exact (List.getElem?_eq_some_iff.mp ht).1)]; exact ht)).2
  rcases hprim with rfl | rfl | rfl <;> exact Option.some.inj (h1.symm.trans h2)
theorem t_newa (hexec : p.tables.exec = Jvm.exec) (hb : c.code = cc) {atype : ArrayType} (harr : (Cond.arrayClass (newarray.typeOf atype)).before args s = true) {ty : FieldType} (hty : newarray.typeOf atype = ty) (hprim : ty = .int ∨ ty = .byte ∨ ty = .boolean) (hK : sK D cl tys s) (hS : sS D cl A H0 ws H locs) (hA : ∀ q, H0.size ≤ q → A q) (t0 : Nat) {c1 : ClassId} (ht : tys[t0]? = some (c1, ty))
    {n : Int32} {N' : Nat} (hn : ¬ n < 0) (hN : n.toNatClampNeg = N') (hbytes : N' * componentBytes ty ≤ 536870912) {c2 s2 : Nat} (hc2 : cells + 1 = c2) (hs2 : slots + N' = s2) (hcells : c2 ≤ R.cells) (hslots : s2 ≤ R.slots) (hdg : decode cc pc = .ok (.newarray atype, 2))
    (kk : ∀ (q : Nat) (H1 : Heap), sS D cl A H0 (ws ++ [(q, .inl (c1, N', .inl (fun _ => 0)))]) H1 locs → W p l e R s m args below meth c H1 locs c2 s2 Q (F0 m (pc + 2) ls (.ref q :: rest))) : W p l e R s m args below meth c H locs cells slots Q (F0 m pc ls (.int n :: rest)) := by
  subst hc2 hs2
  refine va_newa (atype := atype) hexec hb harr hty hK.1 hS.1 hS.2.1 hS.2.2 hA (a0 := (N', .inl (fun _ => 0))) (fun cA => by rcases hprim with rfl | rfl | rfl <;> rfl) hn hN hbytes hcells hslots hdg (fun q cA H1 k1 h1 h2 h3 => ?_)
  have e := t_same k1 t0 ht hprim
  subst e
  exact kk q H1 ⟨h1, h2, h3⟩
variable {y : MethodName} {bytes : ByteArray} {maxL nL index n : Nat} {Ts wsW : List Cond} {rm : Room} {own : String} {b : Nat} {As st0 : List Value} {wc : va_W} {lv : List (Nat × Value)} {B : State → Prop} {mc ms c2 s2 : Nat}
theorem t_callI (hx : p.tables.exec = Jvm.exec) (hb : c.code = cc) (hml : c.maxLocals = nL) (hown : s.vm.findClass own = some m.cls) (hts : ∀ w ∈ Ts, w.before args s = true) (hK : sK D cl tys s) (hA : ∀ q, s.heap.size ≤ q → A q) (hl : lv_has ls nL lv) (hS : sS D cl A s.heap ws H locs)
    (hM : Met l y wsW rm (sPc D cl tys (.ref b :: As) wc H.size) (sQc wc H.size B) mc ms (va_A wc H.size)) (cw : CallB R s args own index y bytes maxL none wsW rm mc ms n ∧ y.name = "<init>" ∧ (Cond.instanceMethod y).before args s = true)
    (isC : List Nat) (hC : isC.map (fun i => ws[i]?) = wc.map some) (hnd : va_nd isC = true) (hn : As.length = n) (hst : st0 = As.reverse ++ .ref b :: rest) (hW : (rest.map fun v => v.category).sum ≤ 8) (hc2 : cells + mc = c2) (hs2 : slots + ms = s2) (hcells : c2 ≤ R.cells) (hslots : s2 ≤ R.slots) (hdg : decode cc pc = .ok (.invokespecial index, 3))
    (kk : ∀ (t : State) (H1 : Heap) (locs1 : List Loc), t.heap = H1 → B t → (∀ q : Nat, q < H.size → ¬ va_A wc H.size q → H1[q]? = H[q]?) → (∀ q, va_A wc H.size q → A q) → va_S A s.heap H1 locs1 → W p l e R s m args below meth c H1 locs1 c2 s2 Q (F0 m (pc + 3) ls rest)) : W p l e R s m args below meth c H locs cells slots Q (F0 m pc ls st0) := by
  subst hc2 hs2
  have hF := s_freeC hS hA hC
  exact va_callv (va_runI (As := As) (rest := rest) ⟨hx, hb, hml, hown, hts⟩ hM cw ⟨s_blind, fun U hU hWm => s_pre hU hWm (s_cut hS.1 hC) hK (s_cutD hS.2.1 hnd hC)⟩ rfl hn hl.1 hst (lv_room hW) hdg ⟨hcells, hslots⟩) hS.2.2 (fun q _ h => hF q h) hF (fun u t H1 locs1 ht hvm hw hB hz1 hk1 hS1 => kk t H1 locs1 ht hB hk1 hF hS1)
theorem t_callIN {host : String} (hx : p.tables.exec = Jvm.exec) (hb : c.code = cc) (hml : c.maxLocals = nL) (hown : s.vm.findClass own = some m.cls) (hts : ∀ w ∈ Ts, w.before args s = true) (hK : sK D cl tys s) (hA : ∀ q, s.heap.size ≤ q → A q) (hl : lv_has ls nL lv) (hS : sS D cl A s.heap ws H locs)
    (hM : Met l y wsW rm (sPc D cl tys (.ref b :: As) wc H.size) (sQc wc H.size B) mc ms (va_A wc H.size)) (cw : va_CN R s args own index y host bytes maxL none wsW rm mc ms n ∧ y.name = "<init>" ∧ (Cond.instanceMethod y).before args s = true)
    (isC : List Nat) (hC : isC.map (fun i => ws[i]?) = wc.map some) (hnd : va_nd isC = true) (hn : As.length = n) (hst : st0 = As.reverse ++ .ref b :: rest) (hW : (rest.map fun v => v.category).sum ≤ 8) (hc2 : cells + mc = c2) (hs2 : slots + ms = s2) (hcells : c2 ≤ R.cells) (hslots : s2 ≤ R.slots) (hdg : decode cc pc = .ok (.invokespecial index, 3))
    (kk : ∀ (t : State) (H1 : Heap) (locs1 : List Loc), t.heap = H1 → B t → (∀ q : Nat, q < H.size → ¬ va_A wc H.size q → H1[q]? = H[q]?) → (∀ q, va_A wc H.size q → A q) → va_S A s.heap H1 locs1 → W p l e R s m args below meth c H1 locs1 c2 s2 Q (F0 m (pc + 3) ls rest)) : W p l e R s m args below meth c H locs cells slots Q (F0 m pc ls st0) := by
  subst hc2 hs2
  have hF := s_freeC hS hA hC
  exact va_callv (va_runIN (As := As) (rest := rest) ⟨hx, hb, hml, hown, hts⟩ hM cw ⟨s_blind, fun U hU hWm => s_pre hU hWm (s_cut hS.1 hC) hK (s_cutD hS.2.1 hnd hC)⟩ rfl hn hl.1 hst (lv_room hW) hdg ⟨hcells, hslots⟩) hS.2.2 (fun q _ h => hF q h) hF (fun u t H1 locs1 ht hvm hw hB hz1 hk1 hS1 => kk t H1 locs1 ht hB hk1 hF hS1)
end SC
/-- behind a constructor: the rest and what came -/
theorem t_join {A0 : Nat → Prop} {D : va_G} {cl : List vw_C} {ws wc wr w1 ws' : va_W} {H0 H H1 : Heap} {locs locs1 : List Loc} (hS : sS D cl A0 H0 ws H locs) (isC isR : List Nat) (hC : isC.map (fun i => ws[i]?) = wc.map some) (hR : isR.map (fun i => ws[i]?) = wr.map some) (hn : va_nd isR = true) (hdis : ∀ i ∈ isR, i ∉ isC)
    (hk : ∀ q : Nat, q < H.size → ¬ va_A wc H.size q → H1[q]? = H[q]?) (hF : ∀ q, va_A wc H.size q → A0 q) (hP1 : va_P D cl w1 H1) (hD1 : va_D (va_A wc H.size) w1) (hS1 : va_S A0 H0 H1 locs1) (isN : List Nat) (hnN : va_nd isN = true) (hN : isN.map (fun i => (wr ++ w1)[i]?) = ws'.map some) : sS D cl A0 H0 ws' H1 locs1 := by
  obtain ⟨h1, h2⟩ := va_join hS.1 hS.2.1 isC isR hC hR hn hdis hk hF hP1 hD1
  exact ⟨s_cut h1 hN, h2.sub isN hnN hN, hS1⟩
section SE3
variable {l : Launch} {y : MethodName} {Ts Ts' : List Cond} {cc : ByteArray} {nL : Nat} {rm : Room} {D : va_G} {tys : List (ClassId × FieldType)} {av : List Value} {ws : va_W} {sz mc ms : Nat}
theorem t_enter {B : State → Prop} (hy : plainName y.cls = true) (hyn : y.name = "<init>") (hw : Ts = Cond.code y cc nL none :: Ts') (hlen : (lg_sl av).length ≤ nL)
    (body : ∀ (p : Program) (e : Env) (s : State) (m : MethodId) (args : Array Value) (below : List Frame) (meth : Method) (c : Code) (A : Nat → Prop) (Q : State → Prop) (_ : A = va_A ws s.heap.size) (_ : Cx p s m args c cc nL y.cls Ts D tys A) (_ : meth.name = "<init>")
      (_ : ∀ (pc : Nat) (H : Heap) (locs : List Loc) (ls : Array Slot), decode cc pc = .ok (.return_, 1) → (∀ t : State, t.heap = H → B t) → va_S A s.heap H locs → s.heap.size = sz → W p l e rm s m args below meth c H locs mc ms Q (F0 m pc ls [])) (_ : s.heap.size = sz) (ls : Array Slot), lv_has ls nL (lv_args 0 av) → sS D vwCl A s.heap ws s.heap [] → W p l e rm s m args below meth c s.heap [] 0 0 Q (F0 m 0 ls [])) :
    Met l y Ts rm (sPc D vwCl tys av ws sz) (sQc ws sz B) mc ms (va_A ws sz) := by
  refine Met.ofW (cc := cc) (maxL := nL) (ret := none) hy hw ?_
  intro p e s m args below meth c s₁ B0 hml hv
  obtain ⟨rfl, hsz, hP, hK, hD0⟩ := hv
  have hlocks := B0.notSynchronized
  subst hsz
  have hl := lv_entry av (n := nL) hlen
  rw [lg_entry_eq]
  have hr := B0.returns
  have hnm : meth.name = "<init>" := by rw [(name_of_methodNamed B0.named B0.method).1, hyn]
  refine body p e s m _ below meth c (va_A ws s.heap.size) _ rfl ⟨B0.exec, B0.bytes, hml, findClass_of_methodNamed B0.named, atoms_spec (ws := Ts) B0.pre, hK, fun q h => Or.inr h⟩ hnm (fun pc H locs ls hd hB hS _ => ?_) rfl _ hl ⟨hP, hD0.self, va_S.rf⟩
  exact W.vret B0.exec B0.bytes hr (fun t ht hW => ⟨⟨(), rfl, trivial, hB t ht⟩, hS.F ht⟩) hS.2.2 hd
end SE3
