section SE2
variable {l : Launch} {y : MethodName} {Ts Ts' : List Cond} {cc : ByteArray} {nL : Nat} {rm : Room} {D : va_G} {tys : List (ClassId × FieldType)} {av : List Value} {ws w1 : va_W} {sz : Nat}
theorem s_enter_n {r : Int32} (hy : plainName y.cls = true) (hw : Ts = Cond.code y cc nL (some .int) :: Ts') (hlen : (lg_sl av).length ≤ nL)
    (body : ∀ (p : Program) (e : Env) (s : State) (m : MethodId) (args : Array Value) (below : List Frame) (meth : Method) (c : Code) (A : Nat → Prop) (Q : State → Prop) (_ : Cx p s m args c cc nL y.cls Ts D tys A)
      (_ : ∀ (pc : Nat) (H : Heap) (locs : List Loc) (ls : Array Slot), decode cc pc = .ok (.ireturn, 1) → sS D vwCl A s.heap w1 H locs → W p l e rm s m args below meth c H locs 0 0 Q (F0 m pc ls [.int r])) (ls : Array Slot), lv_has ls nL (lv_args 0 av) → sS D vwCl A s.heap ws s.heap [] → W p l e rm s m args below meth c s.heap [] 0 0 Q (F0 m 0 ls [])) :
    Met l y Ts rm (sPc D vwCl tys av ws sz) (sQi D vwCl ws w1 sz r) 0 0 (va_A ws sz) := s_enter_i hy hw (Or.inl rfl) hlen body
theorem s_enter_z {r : Int32} (hy : plainName y.cls = true) (hw : Ts = Cond.code y cc nL (some .boolean) :: Ts') (hlen : (lg_sl av).length ≤ nL)
    (body : ∀ (p : Program) (e : Env) (s : State) (m : MethodId) (args : Array Value) (below : List Frame) (meth : Method) (c : Code) (A : Nat → Prop) (Q : State → Prop) (_ : Cx p s m args c cc nL y.cls Ts D tys A)
      (_ : ∀ (pc : Nat) (H : Heap) (locs : List Loc) (ls : Array Slot), decode cc pc = .ok (.ireturn, 1) → (r = 0 ∨ r = 1) → sS D vwCl A s.heap w1 H locs → W p l e rm s m args below meth c H locs 0 0 Q (F0 m pc ls [.int r])) (ls : Array Slot), lv_has ls nL (lv_args 0 av) → sS D vwCl A s.heap ws s.heap [] → W p l e rm s m args below meth c s.heap [] 0 0 Q (F0 m 0 ls [])) :
    Met l y Ts rm (sPc D vwCl tys av ws sz) (sQi D vwCl ws w1 sz r) 0 0 (va_A ws sz) := by
  refine Met.ofW (cc := cc) (maxL := nL) (ret := some .boolean) hy hw ?_
  intro p e s m args below meth c s₁ B hml hv
  obtain ⟨rfl, hsz, hP, hK, hD0⟩ := hv
  have hlocks := B.notSynchronized
  subst hsz
  have hl := lv_entry av (n := nL) hlen
  rw [lg_entry_eq]
  have hr := B.returns
  refine body p e s m _ below meth c (va_A ws s.heap.size) _ ⟨B.exec, B.bytes, hml, findClass_of_methodNamed B.named, atoms_spec (ws := Ts) B.pre, hK, fun q h => Or.inr h⟩ (fun pc H locs ls hd hz hS => ?_) _ hl ⟨hP, hD0.self, va_S.rf⟩
  have hnar : narrow .boolean (.int r) = .int r := by
    rcases hz with rfl | rfl <;> rfl
  exact W.zret B.exec B.bytes hr hnar (fun t ht hW => ⟨⟨r, (), rfl, rfl, by rw [ht]; exact hS.1, hS.2.1⟩, hS.2.2.F ht⟩) hS.2.2.2.2 hd
end SE2
