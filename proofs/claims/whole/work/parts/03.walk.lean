/-! My own words over the kit's rows: a world and its frame in one (sS), a contract's two ends (sPc, sQi ..), the rows that I use with them. -/
abbrev vwCl : List vw_C := [(RX1, TX1, 11), (RX3, TX3, 6), (RX4, TX4, 6), (RX5, TX5, 4), (RX7, TX7, 1), (RX8, TX8, 14), (RX9, TX9, 19)]
abbrev s_tys (cI cB cZ : ClassId) : List (ClassId × FieldType) := [(cI, .int), (cB, .byte), (cZ, .boolean)]
def s_nest : List Cond := [.methodLinkNest "InnTurned" 9 ⟨"InnTurned$House", "<init>", "()V"⟩ "InnTurned", .fieldLinkNest "InnTurned$Lineup" 31 "InnTurned$Table" "rows" "I" "InnTurned", .fieldLinkNest "InnTurned" 69 "InnTurned$Table" "rows" "I" "InnTurned", .fieldLinkNest "InnTurned$Telling" 104 "InnTurned$Table" "rows" "I" "InnTurned", .fieldLinkNest "InnTurned$House" 74 "InnTurned$Table" "rows" "I" "InnTurned", .fieldLinkNest "InnTurned$Wits" 93 "InnTurned$Table" "rows" "I" "InnTurned", .fieldLinkNest "InnTurned$Lineup" 25 "InnTurned$House" "guests" "LInnTurned$Table;" "InnTurned", .fieldLinkNest "InnTurned" 65 "InnTurned$House" "guests" "LInnTurned$Table;" "InnTurned", .fieldLinkNest "InnTurned$Telling" 90 "InnTurned$House" "guests" "LInnTurned$Table;" "InnTurned", .fieldLinkNest "InnTurned$Wits" 52 "InnTurned$House" "guests" "LInnTurned$Table;" "InnTurned", .fieldLinkNest "InnTurned$Wits" 90 "InnTurned$House" "sights" "LInnTurned$Table;" "InnTurned", .fieldLinkNest "InnTurned" 204 "InnTurned$House" "sights" "LInnTurned$Table;" "InnTurned", .fieldLinkNest "InnTurned$Wits" 39 "InnTurned$House" "remarks" "LInnTurned$Table;" "InnTurned", .fieldLinkNest "InnTurned" 229 "InnTurned$House" "remarks" "LInnTurned$Table;" "InnTurned", .fieldLinkNest "InnTurned$Wits" 69 "InnTurned$House" "marks" "LInnTurned$Table;" "InnTurned", .fieldLinkNest "InnTurned" 232 "InnTurned$House" "marks" "LInnTurned$Table;" "InnTurned", .fieldLinkNest "InnTurned" 81 "InnTurned$House" "past" "LInnTurned$Table;" "InnTurned", .fieldLinkNest "InnTurned" 78 "InnTurned$House" "host" "I" "InnTurned", .fieldLinkNest "InnTurned$Lineup" 48 "InnTurned$House" "rooms" "I" "InnTurned", .fieldLinkNest "InnTurned" 298 "InnTurned$House" "rooms" "I" "InnTurned", .fieldLinkNest "InnTurned" 157 "InnTurned$House" "night" "I" "InnTurned", .fieldLinkNest "InnTurned$Lineup" 85 "InnTurned$House" "wheels" "I" "InnTurned", .fieldLinkNest "InnTurned" 179 "InnTurned$House" "wheels" "I" "InnTurned", .fieldLinkNest "InnTurned" 301 "InnTurned$House" "turned" "I" "InnTurned", .methodLinkNest "InnTurned" 27 ⟨"InnTurned$Script", "<init>", "()V"⟩ "InnTurned", .fieldLinkNest "InnTurned" 113 "InnTurned$Script" "size" "I" "InnTurned", .fieldLinkNest "InnTurned$Telling" 61 "InnTurned$Script" "start" "I" "InnTurned", .fieldLinkNest "InnTurned$Telling" 23 "InnTurned$Script" "token" "I" "InnTurned", .fieldLinkNest "InnTurned$Telling" 84 "InnTurned$Script" "number" "I" "InnTurned", .methodLinkNest "InnTurned" 34 ⟨"InnTurned$Lineup", "<init>", "()V"⟩ "InnTurned", .fieldLinkNest "InnTurned" 198 "InnTurned$Lineup" "length" "I" "InnTurned", .fieldLinkNest "InnTurned" 195 "InnTurned$Lineup" "let" "I" "InnTurned", .methodLinkNest "InnTurned" 41 ⟨"InnTurned$Wits", "<init>", "()V"⟩ "InnTurned", .methodLinkNest "InnTurned$Telling" 125 ⟨"InnTurned", "within", "(III)Z"⟩ "InnTurned", .methodLinkNest "InnTurned$House" 77 ⟨"InnTurned", "within", "(III)Z"⟩ "InnTurned"]
def sK (D : va_G) (cl : List vw_C) (tys : List (ClassId × FieldType)) (U : State) : Prop := va_K D cl tys U ∧ ∀ w ∈ s_nest, va_Nw w U
theorem s_nest_on : ∀ w ∈ s_nest, w.onTables = true := by decide +kernel
theorem s_nest_kind : ∀ w ∈ s_nest, (∃ a i b n d h, w = .fieldLinkNest a i b n d h) ∨ (∃ a i x h, w = .methodLinkNest a i x h) := by
  intro w hw
  simp only [s_nest, List.mem_cons, List.not_mem_nil, or_false] at hw
  rcases hw with rfl | rfl | rfl | rfl | rfl | rfl | rfl | rfl | rfl | rfl | rfl | rfl | rfl | rfl | rfl | rfl | rfl | rfl | rfl | rfl | rfl | rfl | rfl | rfl | rfl | rfl | rfl | rfl | rfl | rfl | rfl | rfl | rfl | rfl | rfl <;> first | exact Or.inl ⟨_, _, _, _, _, _, rfl⟩ | exact Or.inr ⟨_, _, _, _, rfl⟩
theorem sK.same {D : va_G} {cl : List vw_C} {tys : List (ClassId × FieldType)} {U : State} {g : JFrame} {mk : MethodId} {a : Array Value} (h : sK D cl tys U) : sK D cl tys (U.calling g mk a) :=
  ⟨va_K.moved (u := U) (U := U.calling g mk a) (Vm.Alike.refl U.vm) h.1, fun w hw => va_Nw.same (u := U) (U := U.calling g mk a) (s_nest_on w hw) rfl (h.2 w hw)⟩
theorem sK.warm {D : va_G} {cl : List vw_C} {tys : List (ClassId × FieldType)} {s U : State} (hW : s.WarmedH U.vm) (h : sK D cl tys s) : sK D cl tys U := by
  refine ⟨va_K.moved hW.alike h.1, fun w hw => ?_⟩
  rcases s_nest_kind w hw with ⟨a, i, b, n, d, ho, rfl⟩ | ⟨a, i, x, ho, rfl⟩
  · exact va_Nw.warmF hW (h.2 _ hw)
  · exact va_Nw.warmM hW (h.2 _ hw)
def sS (D : va_G) (cl : List vw_C) (A : Nat → Prop) (H0 : Heap) (ws : va_W) (H : Heap) (locs : List Loc) : Prop := va_P D cl ws H ∧ va_D A ws ∧ va_S A H0 H locs
def sPc (D : va_G) (cl : List vw_C) (tys : List (ClassId × FieldType)) (av : List Value) (ws : va_W) (sz : Nat) : Array Value → State → Prop := va_Pc av (fun U => U.heap.size = sz ∧ va_P D cl ws U.heap ∧ sK D cl tys U ∧ va_D (fun _ => True) ws)
def sQi (D : va_G) (cl : List vw_C) (ws w1 : va_W) (sz : Nat) (r : Int32) : Array Value → State → Outcome → State → Prop := va_Qi (fun (r' : Int32) (_ : Unit) => r' = r) (fun _ t => va_P D cl w1 t.heap ∧ va_D (va_A ws sz) w1) (va_A ws sz)
def sQl (D : va_G) (cl : List vw_C) (ws w1 : va_W) (sz : Nat) (r : Int64) : Array Value → State → Outcome → State → Prop := va_Ql (fun (r' : Int64) (_ : Unit) => r' = r) (fun _ t => va_P D cl w1 t.heap ∧ va_D (va_A ws sz) w1) (va_A ws sz)
def sQv (D : va_G) (cl : List vw_C) (ws w1 : va_W) (sz : Nat) : Array Value → State → Outcome → State → Prop := va_Qv (fun (_ : Unit) => True) (fun _ t => va_P D cl w1 t.heap ∧ va_D (va_A ws sz) w1) (va_A ws sz)
def s_fuel : Nat := 6000
/-- a world with some of its cells put anew -/
def s_rep (ws : va_W) : List Nat → va_W → va_W
  | i :: is, q :: w1 => (s_rep ws is w1).set i q
  | _, _ => ws
theorem s_guard {α : Type} {c : Prop} [Decidable c] {x : Option α} {r : α} (h : (if c then x else none) = some r) : c ∧ x = some r := by
  by_cases hc : c
  · exact ⟨hc, by rw [if_pos hc] at h; exact h⟩
  · rw [if_neg hc] at h; cases h
theorem s_yes {α : Type} {c : Prop} [Decidable c] {x y : α} {z : α} (hc : c) (h : (if c then x else y) = z) : x = z := by rw [if_pos hc] at h; exact h
theorem s_no {α : Type} {c : Prop} [Decidable c] {x y : α} {z : α} (hc : ¬ c) (h : (if c then x else y) = z) : y = z := by rw [if_neg hc] at h; exact h
theorem s_bind {α β : Type} {x : Option α} {f : α → Option β} {r : β} (h : x.bind f = some r) : ∃ a, x = some a ∧ f a = some r := by
  cases x with
  | none => cases h
  | some a => exact ⟨a, rfl, h⟩
theorem s_rep_get {ws : va_W} : ∀ {is : List Nat} {w1 : va_W} {k : Nat} {q : Nat × va_E}, (s_rep ws is w1)[k]? = some q → (∃ j : Nat, is[j]? = some k ∧ w1[j]? = some q) ∨ (ws[k]? = some q ∧ (is.length = w1.length → k ∉ is)) := by
  intro is
  induction is with
  | nil => intro w1 k q h; exact Or.inr ⟨by simpa [s_rep] using h, fun _ => List.not_mem_nil⟩
  | cons i is ih =>
    intro w1 k q h
    cases w1 with
    | nil => exact Or.inr ⟨by simpa [s_rep] using h, fun hl => by simp at hl⟩
    | cons q1 w1 =>
      rw [s_rep, List.getElem?_set] at h
      by_cases hik : i = k
      · subst hik
        rw [if_pos rfl] at h
        split at h
        · exact Or.inl ⟨0, rfl, by simpa using h⟩
        · cases h
      · rw [if_neg hik] at h
        rcases ih h with ⟨j, h1, h2⟩ | ⟨h1, h2⟩
        · exact Or.inl ⟨j + 1, h1, h2⟩
        · exact Or.inr ⟨h1, fun hl hm => by
            rcases List.mem_cons.mp hm with rfl | hm
            · exact hik rfl
            · exact h2 (by simpa using hl) hm⟩
theorem s_rep_adr {ws wc : va_W} : ∀ {is : List Nat} {w1 : va_W}, is.map (fun i => ws[i]?) = wc.map some → w1.map (fun q => q.1) = wc.map (fun q => q.1) → ∀ {k : Nat} {q : Nat × va_E}, (s_rep ws is w1)[k]? = some q → ∃ e, ws[k]? = some (q.1, e) := by
  intro is w1 hC ha k q h
  rcases s_rep_get h with ⟨j, h1, h2⟩ | ⟨h1, -⟩
  · have e1 : (is.map (fun i => ws[i]?))[j]? = some (ws[k]?) := by rw [List.getElem?_map, h1]; rfl
    rw [hC, List.getElem?_map] at e1
    have e2 : (w1.map (fun q => q.1))[j]? = some q.1 := by rw [List.getElem?_map, h2]; rfl
    rw [ha, List.getElem?_map] at e2
    cases hq : wc[j]? with
    | none => rw [hq] at e1; cases e1
    | some x =>
      rw [hq] at e1 e2
      have e3 : x.1 = q.1 := Option.some.inj e2
      have e4 : ws[k]? = some x := (Option.some.inj e1).symm
      exact ⟨x.2, by rw [e4, ← e3]⟩
  · exact ⟨q.2, h1⟩
theorem s_join {A0 : Nat → Prop} {D : va_G} {cl : List vw_C} {ws wc w1 ws' : va_W} {H H1 : Heap} (hP : va_P D cl ws H) (hD : va_D A0 ws) (isC : List Nat) (hC : isC.map (fun i => ws[i]?) = wc.map some) (ha : w1.map (fun q => q.1) = wc.map (fun q => q.1)) (hr : s_rep ws isC w1 = ws')
    (hk : ∀ q : Nat, q < H.size → ¬ va_A wc H.size q → H1[q]? = H[q]?) (hP1 : va_P D cl w1 H1) : va_P D cl ws' H1 ∧ va_D A0 ws' := by
  subst hr
  have hlen : isC.length = w1.length := by
    have h1 := congrArg List.length hC
    have h2 := congrArg List.length ha
    simp only [List.length_map] at h1 h2
    omega
  refine ⟨fun k q hq => ?_, fun i j p q hp hq hpq => ?_, fun k q hq => ?_⟩
  · rcases s_rep_get hq with ⟨j, -, h2⟩ | ⟨h1, h2⟩
    · exact hP1 j q h2
    · have hlt := (hP k q h1).lt
      refine (hP k q h1).kept (hk q.1 hlt fun hA => ?_)
      rcases hA with ⟨k2, e, h⟩ | h
      · have e1 : (isC.map (fun i => ws[i]?))[k2]? = some (some (q.1, e)) := by rw [hC, List.getElem?_map, h]; rfl
        rw [List.getElem?_map] at e1
        cases hi : isC[k2]? with
        | none => rw [hi] at e1; cases e1
        | some i =>
          rw [hi] at e1
          have hik := hD.1 i k (q.1, e) q (Option.some.inj e1) h1 rfl
          subst hik
          exact h2 hlen (List.mem_of_getElem? hi)
      · omega
  · obtain ⟨e1, h1⟩ := s_rep_adr hC ha hp
    obtain ⟨e2, h2⟩ := s_rep_adr hC ha hq
    exact hD.1 i j _ _ h1 h2 hpq
  · obtain ⟨e1, h1⟩ := s_rep_adr hC ha hq
    exact hD.2 k (q.1, e1) h1
theorem s_freeC {A0 : Nat → Prop} {D : va_G} {cl : List vw_C} {ws wc : va_W} {H0 H : Heap} {locs : List Loc} (hS : sS D cl A0 H0 ws H locs) (hA : ∀ q, H0.size ≤ q → A0 q) {isC : List Nat} (hC : isC.map (fun i => ws[i]?) = wc.map some) : ∀ q, va_A wc H.size q → A0 q := va_free hS.2.1 hS.2.2 hA isC hC
theorem s_cut {D : va_G} {cl : List vw_C} {ws wc : va_W} {H : Heap} (hP : va_P D cl ws H) {isC : List Nat} (hC : isC.map (fun i => ws[i]?) = wc.map some) : va_P D cl wc H := by
  intro k q hq
  have e1 : (isC.map (fun i => ws[i]?))[k]? = some (some q) := by rw [hC, List.getElem?_map, hq]; rfl
  rw [List.getElem?_map] at e1
  cases hi : isC[k]? with
  | none => rw [hi] at e1; cases e1
  | some i => rw [hi] at e1; exact hP i q (Option.some.inj e1)
theorem s_cutD {A : Nat → Prop} {ws wc : va_W} (hD : va_D A ws) {isC : List Nat} (hn : va_nd isC = true) (hC : isC.map (fun i => ws[i]?) = wc.map some) : va_D (fun _ => True) wc := (hD.sub isC hn hC).weaken (fun _ _ _ _ => trivial)
theorem s_blind {D : va_G} {cl : List vw_C} {tys : List (ClassId × FieldType)} {av : List Value} {ws : va_W} {sz : Nat} : FrameBlind (sPc D cl tys av ws sz) := fun a U g mk q => by
  obtain ⟨h1, h2, h3, h4, h5⟩ := q
  exact ⟨h1, h2, h3, h4.same, h5⟩
theorem s_pre {D : va_G} {cl : List vw_C} {tys : List (ClassId × FieldType)} {av : List Value} {ws : va_W} {s U : State} {H : Heap} (hU : U.heap = H) (hW : s.WarmedH U.vm) (hP : va_P D cl ws H) (hK : sK D cl tys s) (hD : va_D (fun _ => True) ws) : sPc D cl tys av ws H.size av.toArray U := ⟨rfl, by rw [hU], by rw [hU]; exact hP, hK.warm hW, hD⟩
section SW
variable {p : Program} {l : Launch} {e : Env} {R : Room} {s : State} {m : MethodId} {args : Array Value} {below : List Frame} {meth : Method} {c : Code} {H H0 : Heap} {locs : List Loc} {Q : State → Prop} {cc : ByteArray} {pc : Nat} {ls : Array Slot} {rest : List Value} {D : va_G} {cl : List vw_C} {tys : List (ClassId × FieldType)} {A : Nat → Prop} {ws : va_W} {a : Nat}
theorem s_get (hexec : p.tables.exec = Jvm.exec) (hb : c.code = cc) {own ref C : String} {T : u_T} {N ci index : Nat} {Ts : List Cond} (hts : ∀ w ∈ Ts, w.before args s = true) (hin : ∀ w ∈ u_ws C T N, w ∈ Ts) (hown : s.vm.findClass own = some m.cls) (hK : sK D cl tys s) (hS : sS D cl A H0 ws H locs) (q0 : Nat) {fs : List Value} (he : ws[q0]? = some (a, .inr (ci, fs))) (hc : cl[ci]? = some (C, T, N)) (k : Nat) (hk : k < N) (hlink : (Cond.fieldLink own index ref (T k).2.1 (T k).2.2.1).before args s = true) (hsame : ref = (T k).1) {v : Value} (hv : fs[k]? = some v) (hdg : decode cc pc = .ok (.getfield index, 3))
    (kk : W p l e R s m args below meth c H locs 0 0 Q (F0 m (pc + 3) ls (v :: rest))) : W p l e R s m args below meth c H locs 0 0 Q (F0 m pc ls (.ref a :: rest)) :=
  va_get hexec hb hts hin hown hK.1 hS.1 q0 he hc k hk hlink (fun _ h => hsame ▸ h) hv hdg kk
theorem s_getN (hexec : p.tables.exec = Jvm.exec) (hb : c.code = cc) {own ref C host : String} {T : u_T} {N ci index : Nat} {Ts : List Cond} (hts : ∀ w ∈ Ts, w.before args s = true) (hin : ∀ w ∈ u_ws C T N, w ∈ Ts) (hown : s.vm.findClass own = some m.cls) (hK : sK D cl tys s) (hS : sS D cl A H0 ws H locs) (q0 : Nat) {fs : List Value} (he : ws[q0]? = some (a, .inr (ci, fs))) (hc : cl[ci]? = some (C, T, N)) (k : Nat) (hk : k < N) (j : Nat) (hj : s_nest[j]? = some (Cond.fieldLinkNest own index ref (T k).2.1 (T k).2.2.1 host)) (hsame : ref = (T k).1) {v : Value} (hv : fs[k]? = some v) (hdg : decode cc pc = .ok (.getfield index, 3))
    (kk : W p l e R s m args below meth c H locs 0 0 Q (F0 m (pc + 3) ls (v :: rest))) : W p l e R s m args below meth c H locs 0 0 Q (F0 m pc ls (.ref a :: rest)) :=
  va_getN hexec hb hts hin hown hK.1 hS.1 q0 he hc k hk (va_Nw.use (s_nest_on _ (List.mem_of_getElem? hj)) (hK.2 _ (List.mem_of_getElem? hj))) (fun _ h => hsame ▸ h) hv hdg kk
theorem s_put (hexec : p.tables.exec = Jvm.exec) (hb : c.code = cc) {own ref C : String} {T : u_T} {N ci index : Nat} {Ts : List Cond} (hts : ∀ w ∈ Ts, w.before args s = true) (hin : ∀ w ∈ u_ws C T N, w ∈ Ts) (ty0 : Nat → FieldType) (hty : ∀ k, k < N → parseFieldDescriptor (T k).2.2.1 = some (ty0 k)) (hnm : ∀ a, a < N → ∀ b, b < N → a ≠ b → (T a).2.1 ≠ (T b).2.1) (hown : s.vm.findClass own = some m.cls) (hK : sK D cl tys s) (hS : sS D cl A H0 ws H locs) (q0 : Nat) {fs : List Value} (he : ws[q0]? = some (a, .inr (ci, fs))) (hc : cl[ci]? = some (C, T, N)) (k : Nat) (hk : k < N) (hlink : (Cond.fieldLink own index ref (T k).2.1 (T k).2.2.1).before args s = true) (hsame : ref = (T k).1) (hfin : (T k).2.2.2 = false) {v : Value} (hn : narrow (ty0 k) v = v) (hfit : fits (ty0 k) v = true) (hl : k < fs.length) {ws' : va_W} (hw : ws.set q0 (a, .inr (ci, fs.set k v)) = ws')
    (hdg : decode cc pc = .ok (.putfield index, 3)) (kk : ∀ (H1 : Heap) (locs1 : List Loc), sS D cl A H0 ws' H1 locs1 → W p l e R s m args below meth c H1 locs1 0 0 Q (F0 m (pc + 3) ls rest)) : W p l e R s m args below meth c H locs 0 0 Q (F0 m pc ls (v :: .ref a :: rest)) :=
  va_put hexec hb hts hin ty0 hty hnm hown hK.1 hS.1 hS.2.1 hS.2.2 q0 he hc k hk hlink (fun _ h => hsame ▸ h) hfin (hty k hk) hn hfit hl hdg (fun H1 locs1 h1 h2 h3 => kk H1 locs1 ⟨hw ▸ h1, hw ▸ h2, h3⟩)
theorem s_putN (hexec : p.tables.exec = Jvm.exec) (hb : c.code = cc) {own ref C host : String} {T : u_T} {N ci index : Nat} {Ts : List Cond} (hts : ∀ w ∈ Ts, w.before args s = true) (hin : ∀ w ∈ u_ws C T N, w ∈ Ts) (ty0 : Nat → FieldType) (hty : ∀ k, k < N → parseFieldDescriptor (T k).2.2.1 = some (ty0 k)) (hnm : ∀ a, a < N → ∀ b, b < N → a ≠ b → (T a).2.1 ≠ (T b).2.1) (hown : s.vm.findClass own = some m.cls) (hK : sK D cl tys s) (hS : sS D cl A H0 ws H locs) (q0 : Nat) {fs : List Value} (he : ws[q0]? = some (a, .inr (ci, fs))) (hc : cl[ci]? = some (C, T, N)) (k : Nat) (hk : k < N) (j : Nat) (hj : s_nest[j]? = some (Cond.fieldLinkNest own index ref (T k).2.1 (T k).2.2.1 host)) (hsame : ref = (T k).1) (hfin : (T k).2.2.2 = false) {v : Value} (hn : narrow (ty0 k) v = v) (hfit : fits (ty0 k) v = true) (hl : k < fs.length) {ws' : va_W} (hw : ws.set q0 (a, .inr (ci, fs.set k v)) = ws')
    (hdg : decode cc pc = .ok (.putfield index, 3)) (kk : ∀ (H1 : Heap) (locs1 : List Loc), sS D cl A H0 ws' H1 locs1 → W p l e R s m args below meth c H1 locs1 0 0 Q (F0 m (pc + 3) ls rest)) : W p l e R s m args below meth c H locs 0 0 Q (F0 m pc ls (v :: .ref a :: rest)) :=
  va_putN hexec hb hts hin ty0 hty hnm hown hK.1 hS.1 hS.2.1 hS.2.2 q0 he hc k hk (va_Nw.use (s_nest_on _ (List.mem_of_getElem? hj)) (hK.2 _ (List.mem_of_getElem? hj))) (fun _ h => hsame ▸ h) hfin (hty k hk) hn hfit hl hdg (fun H1 locs1 h1 h2 h3 => kk H1 locs1 ⟨hw ▸ h1, hw ▸ h2, h3⟩)
theorem s_iald (hexec : p.tables.exec = Jvm.exec) (hb : c.code = cc) (hK : sK D cl tys s) (hS : sS D cl A H0 ws H locs) (q0 : Nat) {cA : ClassId} {n : Nat} {f : Nat → Int32} (ha : ws[q0]? = some (a, .inl (cA, n, .inl f))) (ht : tys[0]? = some (cA, .int)) {i : Int32} (hin : ¬ (i < 0 ∨ n ≤ i.toNatClampNeg)) (hdg : decode cc pc = .ok (.iaload, 1))
    (kk : W p l e R s m args below meth c H locs 0 0 Q (F0 m (pc + 1) ls (.int (f i.toNatClampNeg) :: rest))) : W p l e R s m args below meth c H locs 0 0 Q (F0 m pc ls (.int i :: .ref a :: rest)) := va_iald hexec hb hK.1 hS.1 q0 0 ha ht hin hdg kk
theorem s_bald (hexec : p.tables.exec = Jvm.exec) (hb : c.code = cc) (hK : sK D cl tys s) (hS : sS D cl A H0 ws H locs) (q0 : Nat) {cA : ClassId} {n : Nat} {f : Nat → Int32} (ha : ws[q0]? = some (a, .inl (cA, n, .inl f))) (ht : tys[1]? = some (cA, .byte)) {i : Int32} (hin : ¬ (i < 0 ∨ n ≤ i.toNatClampNeg)) (hdg : decode cc pc = .ok (.baload, 1))
    (kk : W p l e R s m args below meth c H locs 0 0 Q (F0 m (pc + 1) ls (.int (f i.toNatClampNeg) :: rest))) : W p l e R s m args below meth c H locs 0 0 Q (F0 m pc ls (.int i :: .ref a :: rest)) := va_bald hexec hb hK.1 hS.1 q0 1 ha ht hin hdg kk
theorem s_zald (hexec : p.tables.exec = Jvm.exec) (hb : c.code = cc) (hK : sK D cl tys s) (hS : sS D cl A H0 ws H locs) (q0 : Nat) {cA : ClassId} {n : Nat} {f : Nat → Int32} (ha : ws[q0]? = some (a, .inl (cA, n, .inl f))) (ht : tys[2]? = some (cA, .boolean)) {i : Int32} (hin : ¬ (i < 0 ∨ n ≤ i.toNatClampNeg)) (hdg : decode cc pc = .ok (.baload, 1))
    (kk : W p l e R s m args below meth c H locs 0 0 Q (F0 m (pc + 1) ls (.int (f i.toNatClampNeg) :: rest))) : W p l e R s m args below meth c H locs 0 0 Q (F0 m pc ls (.int i :: .ref a :: rest)) := va_zald hexec hb hK.1 hS.1 q0 2 ha ht hin hdg kk
theorem s_iast (hexec : p.tables.exec = Jvm.exec) (hb : c.code = cc) (hK : sK D cl tys s) (hS : sS D cl A H0 ws H locs) (q0 : Nat) {cA : ClassId} {n : Nat} {f : Nat → Int32} (ha : ws[q0]? = some (a, .inl (cA, n, .inl f))) (ht : tys[0]? = some (cA, .int)) {i x : Int32} (hin : ¬ (i < 0 ∨ n ≤ i.toNatClampNeg)) {ws' : va_W} (hw : ws.set q0 (a, .inl (cA, n, .inl (upd f i.toNatClampNeg x))) = ws') (hdg : decode cc pc = .ok (.iastore, 1))
    (kk : ∀ (H1 : Heap) (locs1 : List Loc), sS D cl A H0 ws' H1 locs1 → W p l e R s m args below meth c H1 locs1 0 0 Q (F0 m (pc + 1) ls rest)) : W p l e R s m args below meth c H locs 0 0 Q (F0 m pc ls (.int x :: .int i :: .ref a :: rest)) :=
  va_iast hexec hb hK.1 hS.1 hS.2.1 hS.2.2 q0 0 ha ht hin hdg (fun H1 locs1 h1 h2 h3 => kk H1 locs1 ⟨hw ▸ h1, hw ▸ h2, h3⟩)
theorem s_bast (hexec : p.tables.exec = Jvm.exec) (hb : c.code = cc) (hK : sK D cl tys s) (hS : sS D cl A H0 ws H locs) (q0 : Nat) {cA : ClassId} {n : Nat} {f : Nat → Int32} (ha : ws[q0]? = some (a, .inl (cA, n, .inl f))) (ht : tys[1]? = some (cA, .byte)) {i x : Int32} (hin : ¬ (i < 0 ∨ n ≤ i.toNatClampNeg)) {ws' : va_W} (hw : ws.set q0 (a, .inl (cA, n, .inl (upd f i.toNatClampNeg (vp_nar .byte x)))) = ws') (hdg : decode cc pc = .ok (.bastore, 1))
    (kk : ∀ (H1 : Heap) (locs1 : List Loc), sS D cl A H0 ws' H1 locs1 → W p l e R s m args below meth c H1 locs1 0 0 Q (F0 m (pc + 1) ls rest)) : W p l e R s m args below meth c H locs 0 0 Q (F0 m pc ls (.int x :: .int i :: .ref a :: rest)) :=
  va_bast hexec hb hK.1 hS.1 hS.2.1 hS.2.2 q0 1 ha ht hin hdg (fun H1 locs1 h1 h2 h3 => kk H1 locs1 ⟨hw ▸ h1, hw ▸ h2, h3⟩)
theorem s_zast (hexec : p.tables.exec = Jvm.exec) (hb : c.code = cc) (hK : sK D cl tys s) (hS : sS D cl A H0 ws H locs) (q0 : Nat) {cA : ClassId} {n : Nat} {f : Nat → Int32} (ha : ws[q0]? = some (a, .inl (cA, n, .inl f))) (ht : tys[2]? = some (cA, .boolean)) {i x : Int32} (hin : ¬ (i < 0 ∨ n ≤ i.toNatClampNeg)) {ws' : va_W} (hw : ws.set q0 (a, .inl (cA, n, .inl (upd f i.toNatClampNeg (vp_nar .boolean x)))) = ws') (hdg : decode cc pc = .ok (.bastore, 1))
    (kk : ∀ (H1 : Heap) (locs1 : List Loc), sS D cl A H0 ws' H1 locs1 → W p l e R s m args below meth c H1 locs1 0 0 Q (F0 m (pc + 1) ls rest)) : W p l e R s m args below meth c H locs 0 0 Q (F0 m pc ls (.int x :: .int i :: .ref a :: rest)) :=
  va_zast hexec hb hK.1 hS.1 hS.2.1 hS.2.2 q0 2 ha ht hin hdg (fun H1 locs1 h1 h2 h3 => kk H1 locs1 ⟨hw ▸ h1, hw ▸ h2, h3⟩)
theorem s_alen (hexec : p.tables.exec = Jvm.exec) (hb : c.code = cc) (hK : sK D cl tys s) (hS : sS D cl A H0 ws H locs) (q0 t0 : Nat) {cA : ClassId} {x : vp_A} (ha : ws[q0]? = some (a, .inl (cA, x))) {ty : FieldType} (ht : tys[t0]? = some (cA, ty)) {v : Int32} (hv : Int32.ofNat x.1 = v) (hdg : decode cc pc = .ok (.arraylength, 1))
    (kk : W p l e R s m args below meth c H locs 0 0 Q (F0 m (pc + 1) ls (.int v :: rest))) : W p l e R s m args below meth c H locs 0 0 Q (F0 m pc ls (.ref a :: rest)) := va_alen hexec hb hK.1 hS.1 q0 t0 ha ht hv hdg kk
theorem s_copyi (hexec : p.tables.exec = Jvm.exec) (hb : c.code = cc) {nL : Nat} (hml : c.maxLocals = nL) (hsz : ls.size = nL) {own : String} {index : Nat} (hown : s.vm.findClass own = some m.cls) (hlink : (Cond.methodLink own index arraycopyName).before args s = true) (hnat : (Cond.native arraycopyName).before args s = true) (hstat : (Cond.static arraycopyName).before args s = true) (hini : (Cond.initialized "java/lang/System").before args s = true)
    (hK : sK D cl tys s) (hS : sS D cl A H0 ws H locs) (q0 q1 : Nat) {a0 : Nat} {c0 c1 : ClassId} {n0 n1 : Nat} {f g : Nat → Int32} (ha0 : ws[q0]? = some (a0, .inl (c0, n0, .inl f))) (ha1 : ws[q1]? = some (a, .inl (c1, n1, .inl g))) (ht0 : tys[0]? = some (c0, .int)) (ht1 : tys[0]? = some (c1, .int))
    {sp dp n : Int32} (hg : (¬ sp < 0) ∧ (¬ dp < 0) ∧ (¬ n < 0) ∧ sp.toNatClampNeg + n.toNatClampNeg ≤ n0 ∧ dp.toNatClampNeg + n.toNatClampNeg ≤ n1)
    (hframes : 1 ≤ R.frames) (hlocals : (rest.map fun v => v.category).sum + (nativeFrameWords "java/lang/System" "arraycopy" 5 + 11) ≤ R.locals) {ws' : va_W} (hw : ws.set q1 (a, .inl (c1, n1, .inl (va_cpy f g sp.toNatClampNeg dp.toNatClampNeg n.toNatClampNeg))) = ws') (hdg : decode cc pc = .ok (.invokestatic index, 3))
    (kk : ∀ (H1 : Heap) (locs1 : List Loc), sS D cl A H0 ws' H1 locs1 → W p l e R s m args below meth c H1 locs1 0 0 Q (F0 m (pc + 3) ls rest)) : W p l e R s m args below meth c H locs 0 0 Q (F0 m pc ls (.int n :: .int dp :: .ref a :: .int sp :: .ref a0 :: rest)) :=
  va_copyi hexec hb (hml.trans hsz.symm) hown hlink hnat hstat hini hK.1 hS.1 hS.2.1 hS.2.2 q0 q1 0 0 ha0 ha1 ht0 ht1 rfl hg.1 hg.2.1 hg.2.2.1 hg.2.2.2.1 hg.2.2.2.2 (fun _ _ => rfl) hframes hlocals hdg (fun H1 locs1 h1 h2 h3 => kk H1 locs1 ⟨hw ▸ h1, hw ▸ h2, h3⟩)
theorem s_min (hexec : p.tables.exec = Jvm.exec) (hb : c.code = cc) {nL : Nat} (hml : c.maxLocals = nL) (hsz : ls.size = nL) {own : String} {index : Nat} (hown : s.vm.findClass own = some m.cls) (hlink : (Cond.methodLink own index Lib.Math.min.name).before args s = true) (hstat : (Cond.static Lib.Math.min.name).before args s = true) (hini : (Cond.initialized "java/lang/Math").before args s = true) (hcode : (Cond.code Lib.Math.min.name Lib.Math.min.code 2 (some .int)).before args s = true)
    (hframes : 1 ≤ R.frames) (hlocals : (rest.map fun v => v.category).sum + 13 ≤ R.locals) {x y : Int32} (hdg : decode cc pc = .ok (.invokestatic index, 3))
    (kk : W p l e R s m args below meth c H locs 0 0 Q (F0 m (pc + 3) ls (.int (if y < x then y else x) :: rest))) : W p l e R s m args below meth c H locs 0 0 Q (F0 m pc ls (.int y :: .int x :: rest)) :=
  va_mmin hexec hb (hml.trans hsz.symm) hown hlink hstat hini hcode hframes hlocals (Nat.zero_le _) (Nat.zero_le _) hdg kk
theorem s_max (hexec : p.tables.exec = Jvm.exec) (hb : c.code = cc) {nL : Nat} (hml : c.maxLocals = nL) (hsz : ls.size = nL) {own : String} {index : Nat} (hown : s.vm.findClass own = some m.cls) (hlink : (Cond.methodLink own index Lib.Math.max.name).before args s = true) (hstat : (Cond.static Lib.Math.max.name).before args s = true) (hini : (Cond.initialized "java/lang/Math").before args s = true) (hcode : (Cond.code Lib.Math.max.name Lib.Math.max.code 2 (some .int)).before args s = true)
    (hframes : 1 ≤ R.frames) (hlocals : (rest.map fun v => v.category).sum + 13 ≤ R.locals) {x y : Int32} (hdg : decode cc pc = .ok (.invokestatic index, 3))
    (kk : W p l e R s m args below meth c H locs 0 0 Q (F0 m (pc + 3) ls (.int (if x < y then y else x) :: rest))) : W p l e R s m args below meth c H locs 0 0 Q (F0 m pc ls (.int y :: .int x :: rest)) :=
  va_mmax hexec hb (hml.trans hsz.symm) hown hlink hstat hini hcode hframes hlocals (Nat.zero_le _) (Nat.zero_le _) hdg kk
theorem s_sw (hexec : p.tables.exec = Jvm.exec) (hb : c.code = cc) {dflt lo hi : Int} {offs : Array Int} {len : Nat} {x : Int32} (k : Int32) (e0 : x = k) {off : Int} {tgt : Nat} (hdg : decode cc pc = .ok (.tableswitch dflt lo hi offs, len)) (h1 : ¬ k.toInt < lo) (h2 : ¬ hi < k.toInt) (ho : offs[(k.toInt - lo).toNat]? = some off) (ht : (pc : Int) + off = (tgt : Int))
    (kk : W p l e R s m args below meth c H locs 0 0 Q (F0 m tgt ls rest)) : W p l e R s m args below meth c H locs 0 0 Q (F0 m pc ls (.int x :: rest)) := by
  subst e0
  exact lv_tableIn hexec hb hdg h1 h2 ho ht kk
theorem s_ne (k : Int) {x : Int32} (h : ¬ x = Int32.ofInt k) (hk : -100 ≤ k ∧ k ≤ 100) : x.toInt ≠ k := by
  intro h1
  apply h
  apply Int32.toInt_inj.mp
  rw [h1, Int32.toInt_ofInt]
  have := hk.1; have := hk.2
  rw [Int.bmod_def, show Int32.size = 4294967296 from rfl]
  omega
variable {y : MethodName} {bytes : ByteArray} {maxL nL index n : Nat} {ret : Option FieldType} {Ts wsW : List Cond} {rm : Room} {own C : String} {b : Nat} {As st0 : List Value} {wc w1 ws' : va_W} {lv : List (Nat × Value)}
theorem s_calliV {r : Int32} (hx : p.tables.exec = Jvm.exec) (hb : c.code = cc) (hml : c.maxLocals = nL) (hown : s.vm.findClass own = some m.cls) (hts : ∀ w ∈ Ts, w.before args s = true) (hK : sK D cl tys s) (hA : ∀ q, s.heap.size ≤ q → A q) (hl : lv_has ls nL lv) (hS : sS D cl A s.heap ws H locs)
    (hM : Met l y wsW rm (sPc D cl tys (.ref b :: As) wc H.size) (sQi D cl wc w1 H.size r) 0 0 (va_A wc H.size)) (cw : CallW R s args own C index y bytes maxL ret wsW rm 0 0 n) (qr : Nat) {ci : Nat} {fs : List Value} {T : u_T} {N : Nat} (hr0 : ws[qr]? = some (b, .inr (ci, fs))) (hcl : cl[ci]? = some (C, T, N))
    (isC : List Nat) (hC : isC.map (fun i => ws[i]?) = wc.map some) (hnd : va_nd isC = true) (ha : w1.map (fun q => q.1) = wc.map (fun q => q.1)) (hr : s_rep ws isC w1 = ws') (hn : As.length = n) (hst : st0 = As.reverse ++ .ref b :: rest) (hW : (rest.map fun v => v.category).sum ≤ 8) (hdg : decode cc pc = .ok (.invokevirtual index, 3))
    (kk : ∀ (H1 : Heap) (locs1 : List Loc), sS D cl A s.heap ws' H1 locs1 → W p l e R s m args below meth c H1 locs1 0 0 Q (F0 m (pc + 3) ls (.int r :: rest))) : W p l e R s m args below meth c H locs 0 0 Q (F0 m pc ls st0) := by
  have hF := s_freeC hS hA hC
  refine va_calli (va_runV (As := As) (rest := rest) ⟨hx, hb, hml, hown, hts⟩ hM cw ⟨s_blind, va_recv hK.1 hS.1 hcl hr0, fun U hU hWm => s_pre hU hWm (s_cut hS.1 hC) hK (s_cutD hS.2.1 hnd hC)⟩ rfl hn hl.1 hst (lv_room hW) hdg ⟨Nat.zero_le _, Nat.zero_le _⟩) hS.2.2 (fun q _ h => hF q h) hF (fun r1 u t H1 locs1 ht hvm hw hB hz1 hk1 hS1 => ?_)
  obtain ⟨hP1, hD1⟩ := hB
  rw [ht] at hP1
  obtain ⟨hP2, hD2⟩ := s_join hS.1 hS.2.1 isC hC ha hr hk1 hP1
  rw [show r1 = r from hw]
  exact kk H1 locs1 ⟨hP2, hD2, hS1⟩
theorem s_calllV {r : Int64} (hx : p.tables.exec = Jvm.exec) (hb : c.code = cc) (hml : c.maxLocals = nL) (hown : s.vm.findClass own = some m.cls) (hts : ∀ w ∈ Ts, w.before args s = true) (hK : sK D cl tys s) (hA : ∀ q, s.heap.size ≤ q → A q) (hl : lv_has ls nL lv) (hS : sS D cl A s.heap ws H locs)
    (hM : Met l y wsW rm (sPc D cl tys (.ref b :: As) wc H.size) (sQl D cl wc w1 H.size r) 0 0 (va_A wc H.size)) (cw : CallW R s args own C index y bytes maxL ret wsW rm 0 0 n) (qr : Nat) {ci : Nat} {fs : List Value} {T : u_T} {N : Nat} (hr0 : ws[qr]? = some (b, .inr (ci, fs))) (hcl : cl[ci]? = some (C, T, N))
    (isC : List Nat) (hC : isC.map (fun i => ws[i]?) = wc.map some) (hnd : va_nd isC = true) (ha : w1.map (fun q => q.1) = wc.map (fun q => q.1)) (hr : s_rep ws isC w1 = ws') (hn : As.length = n) (hst : st0 = As.reverse ++ .ref b :: rest) (hW : (rest.map fun v => v.category).sum ≤ 8) (hdg : decode cc pc = .ok (.invokevirtual index, 3))
    (kk : ∀ (H1 : Heap) (locs1 : List Loc), sS D cl A s.heap ws' H1 locs1 → W p l e R s m args below meth c H1 locs1 0 0 Q (F0 m (pc + 3) ls (.long r :: rest))) : W p l e R s m args below meth c H locs 0 0 Q (F0 m pc ls st0) := by
  have hF := s_freeC hS hA hC
  refine va_calll (va_runV (As := As) (rest := rest) ⟨hx, hb, hml, hown, hts⟩ hM cw ⟨s_blind, va_recv hK.1 hS.1 hcl hr0, fun U hU hWm => s_pre hU hWm (s_cut hS.1 hC) hK (s_cutD hS.2.1 hnd hC)⟩ rfl hn hl.1 hst (lv_room hW) hdg ⟨Nat.zero_le _, Nat.zero_le _⟩) hS.2.2 (fun q _ h => hF q h) hF (fun r1 u t H1 locs1 ht hvm hw hB hz1 hk1 hS1 => ?_)
  obtain ⟨hP1, hD1⟩ := hB
  rw [ht] at hP1
  obtain ⟨hP2, hD2⟩ := s_join hS.1 hS.2.1 isC hC ha hr hk1 hP1
  rw [show r1 = r from hw]
  exact kk H1 locs1 ⟨hP2, hD2, hS1⟩
theorem s_callvV (hx : p.tables.exec = Jvm.exec) (hb : c.code = cc) (hml : c.maxLocals = nL) (hown : s.vm.findClass own = some m.cls) (hts : ∀ w ∈ Ts, w.before args s = true) (hK : sK D cl tys s) (hA : ∀ q, s.heap.size ≤ q → A q) (hl : lv_has ls nL lv) (hS : sS D cl A s.heap ws H locs)
    (hM : Met l y wsW rm (sPc D cl tys (.ref b :: As) wc H.size) (sQv D cl wc w1 H.size) 0 0 (va_A wc H.size)) (cw : CallW R s args own C index y bytes maxL ret wsW rm 0 0 n) (qr : Nat) {ci : Nat} {fs : List Value} {T : u_T} {N : Nat} (hr0 : ws[qr]? = some (b, .inr (ci, fs))) (hcl : cl[ci]? = some (C, T, N))
    (isC : List Nat) (hC : isC.map (fun i => ws[i]?) = wc.map some) (hnd : va_nd isC = true) (ha : w1.map (fun q => q.1) = wc.map (fun q => q.1)) (hr : s_rep ws isC w1 = ws') (hn : As.length = n) (hst : st0 = As.reverse ++ .ref b :: rest) (hW : (rest.map fun v => v.category).sum ≤ 8) (hdg : decode cc pc = .ok (.invokevirtual index, 3))
    (kk : ∀ (H1 : Heap) (locs1 : List Loc), sS D cl A s.heap ws' H1 locs1 → W p l e R s m args below meth c H1 locs1 0 0 Q (F0 m (pc + 3) ls rest)) : W p l e R s m args below meth c H locs 0 0 Q (F0 m pc ls st0) := by
  have hF := s_freeC hS hA hC
  refine va_callv (va_runV (As := As) (rest := rest) ⟨hx, hb, hml, hown, hts⟩ hM cw ⟨s_blind, va_recv hK.1 hS.1 hcl hr0, fun U hU hWm => s_pre hU hWm (s_cut hS.1 hC) hK (s_cutD hS.2.1 hnd hC)⟩ rfl hn hl.1 hst (lv_room hW) hdg ⟨Nat.zero_le _, Nat.zero_le _⟩) hS.2.2 (fun q _ h => hF q h) hF (fun u t H1 locs1 ht hvm hw hB hz1 hk1 hS1 => ?_)
  obtain ⟨hP1, hD1⟩ := hB
  rw [ht] at hP1
  obtain ⟨hP2, hD2⟩ := s_join hS.1 hS.2.1 isC hC ha hr hk1 hP1
  exact kk H1 locs1 ⟨hP2, hD2, hS1⟩
theorem s_calliS {r : Int32} (hx : p.tables.exec = Jvm.exec) (hb : c.code = cc) (hml : c.maxLocals = nL) (hown : s.vm.findClass own = some m.cls) (hts : ∀ w ∈ Ts, w.before args s = true) (hK : sK D cl tys s) (hA : ∀ q, s.heap.size ≤ q → A q) (hl : lv_has ls nL lv) (hS : sS D cl A s.heap ws H locs)
    (hM : Met l y wsW rm (sPc D cl tys As wc H.size) (sQi D cl wc w1 H.size r) 0 0 (va_A wc H.size)) (cw : CallB R s args own index y bytes maxL ret wsW rm 0 0 n ∧ (Cond.static y).before args s = true)
    (isC : List Nat) (hC : isC.map (fun i => ws[i]?) = wc.map some) (hnd : va_nd isC = true) (ha : w1.map (fun q => q.1) = wc.map (fun q => q.1)) (hr : s_rep ws isC w1 = ws') (hn : As.length = n) (hst : st0 = As.reverse ++ rest) (hW : (rest.map fun v => v.category).sum ≤ 8) (hdg : decode cc pc = .ok (.invokestatic index, 3))
    (kk : ∀ (H1 : Heap) (locs1 : List Loc), sS D cl A s.heap ws' H1 locs1 → W p l e R s m args below meth c H1 locs1 0 0 Q (F0 m (pc + 3) ls (.int r :: rest))) : W p l e R s m args below meth c H locs 0 0 Q (F0 m pc ls st0) := by
  have hF := s_freeC hS hA hC
  refine va_calli (va_runS (As := As) (rest := rest) ⟨hx, hb, hml, hown, hts⟩ hM cw ⟨s_blind, fun U hU hWm => s_pre hU hWm (s_cut hS.1 hC) hK (s_cutD hS.2.1 hnd hC)⟩ rfl hn hl.1 hst (lv_room hW) hdg ⟨Nat.zero_le _, Nat.zero_le _⟩) hS.2.2 (fun q _ h => hF q h) hF (fun r1 u t H1 locs1 ht hvm hw hB hz1 hk1 hS1 => ?_)
  obtain ⟨hP1, hD1⟩ := hB
  rw [ht] at hP1
  obtain ⟨hP2, hD2⟩ := s_join hS.1 hS.2.1 isC hC ha hr hk1 hP1
  rw [show r1 = r from hw]
  exact kk H1 locs1 ⟨hP2, hD2, hS1⟩
theorem s_callvS (hx : p.tables.exec = Jvm.exec) (hb : c.code = cc) (hml : c.maxLocals = nL) (hown : s.vm.findClass own = some m.cls) (hts : ∀ w ∈ Ts, w.before args s = true) (hK : sK D cl tys s) (hA : ∀ q, s.heap.size ≤ q → A q) (hl : lv_has ls nL lv) (hS : sS D cl A s.heap ws H locs)
    (hM : Met l y wsW rm (sPc D cl tys As wc H.size) (sQv D cl wc w1 H.size) 0 0 (va_A wc H.size)) (cw : CallB R s args own index y bytes maxL ret wsW rm 0 0 n ∧ (Cond.static y).before args s = true)
    (isC : List Nat) (hC : isC.map (fun i => ws[i]?) = wc.map some) (hnd : va_nd isC = true) (ha : w1.map (fun q => q.1) = wc.map (fun q => q.1)) (hr : s_rep ws isC w1 = ws') (hn : As.length = n) (hst : st0 = As.reverse ++ rest) (hW : (rest.map fun v => v.category).sum ≤ 8) (hdg : decode cc pc = .ok (.invokestatic index, 3))
    (kk : ∀ (H1 : Heap) (locs1 : List Loc), sS D cl A s.heap ws' H1 locs1 → W p l e R s m args below meth c H1 locs1 0 0 Q (F0 m (pc + 3) ls rest)) : W p l e R s m args below meth c H locs 0 0 Q (F0 m pc ls st0) := by
  have hF := s_freeC hS hA hC
  refine va_callv (va_runS (As := As) (rest := rest) ⟨hx, hb, hml, hown, hts⟩ hM cw ⟨s_blind, fun U hU hWm => s_pre hU hWm (s_cut hS.1 hC) hK (s_cutD hS.2.1 hnd hC)⟩ rfl hn hl.1 hst (lv_room hW) hdg ⟨Nat.zero_le _, Nat.zero_le _⟩) hS.2.2 (fun q _ h => hF q h) hF (fun u t H1 locs1 ht hvm hw hB hz1 hk1 hS1 => ?_)
  obtain ⟨hP1, hD1⟩ := hB
  rw [ht] at hP1
  obtain ⟨hP2, hD2⟩ := s_join hS.1 hS.2.1 isC hC ha hr hk1 hP1
  exact kk H1 locs1 ⟨hP2, hD2, hS1⟩
theorem s_calliN {r : Int32} {host : String} (hx : p.tables.exec = Jvm.exec) (hb : c.code = cc) (hml : c.maxLocals = nL) (hown : s.vm.findClass own = some m.cls) (hts : ∀ w ∈ Ts, w.before args s = true) (hK : sK D cl tys s) (hA : ∀ q, s.heap.size ≤ q → A q) (hl : lv_has ls nL lv) (hS : sS D cl A s.heap ws H locs)
    (hM : Met l y wsW rm (sPc D cl tys As wc H.size) (sQi D cl wc w1 H.size r) 0 0 (va_A wc H.size)) (cw : va_CN R s args own index y host bytes maxL ret wsW rm 0 0 n ∧ (Cond.static y).before args s = true ∧ True)
    (isC : List Nat) (hC : isC.map (fun i => ws[i]?) = wc.map some) (hnd : va_nd isC = true) (ha : w1.map (fun q => q.1) = wc.map (fun q => q.1)) (hr : s_rep ws isC w1 = ws') (hn : As.length = n) (hst : st0 = As.reverse ++ rest) (hW : (rest.map fun v => v.category).sum ≤ 8) (hdg : decode cc pc = .ok (.invokestatic index, 3))
    (kk : ∀ (H1 : Heap) (locs1 : List Loc), sS D cl A s.heap ws' H1 locs1 → W p l e R s m args below meth c H1 locs1 0 0 Q (F0 m (pc + 3) ls (.int r :: rest))) : W p l e R s m args below meth c H locs 0 0 Q (F0 m pc ls st0) := by
  have hF := s_freeC hS hA hC
  refine va_calli (va_runSN (As := As) (rest := rest) ⟨hx, hb, hml, hown, hts⟩ hM cw ⟨s_blind, fun U hU hWm => s_pre hU hWm (s_cut hS.1 hC) hK (s_cutD hS.2.1 hnd hC)⟩ rfl hn hl.1 hst (lv_room hW) hdg ⟨Nat.zero_le _, Nat.zero_le _⟩) hS.2.2 (fun q _ h => hF q h) hF (fun r1 u t H1 locs1 ht hvm hw hB hz1 hk1 hS1 => ?_)
  obtain ⟨hP1, hD1⟩ := hB
  rw [ht] at hP1
  obtain ⟨hP2, hD2⟩ := s_join hS.1 hS.2.1 isC hC ha hr hk1 hP1
  rw [show r1 = r from hw]
  exact kk H1 locs1 ⟨hP2, hD2, hS1⟩
end SW
/-- how a method stands at its entry and after -/
def Cx (p : Program) (s : State) (m : MethodId) (args : Array Value) (c : Code) (cc : ByteArray) (nL : Nat) (own : String) (Ts : List Cond) (D : va_G) (tys : List (ClassId × FieldType)) (A : Nat → Prop) : Prop :=
  p.tables.exec = Jvm.exec ∧ c.code = cc ∧ c.maxLocals = nL ∧ s.vm.findClass own = some m.cls ∧ (∀ w ∈ Ts, w.before args s = true) ∧ sK D vwCl tys s ∧ (∀ q, s.heap.size ≤ q → A q)
section SE
variable {l : Launch} {y : MethodName} {Ts Ts' : List Cond} {cc : ByteArray} {nL : Nat} {rm : Room} {D : va_G} {tys : List (ClassId × FieldType)} {av : List Value} {ws w1 : va_W} {sz : Nat}
theorem s_enter_i {r : Int32} {rt : FieldType} (hy : plainName y.cls = true) (hw : Ts = Cond.code y cc nL (some rt) :: Ts') (hn : rt = .int ∨ (rt = .boolean ∧ (r = 0 ∨ r = 1))) (hlen : (lg_sl av).length ≤ nL)
    (body : ∀ (p : Program) (e : Env) (s : State) (m : MethodId) (args : Array Value) (below : List Frame) (meth : Method) (c : Code) (A : Nat → Prop) (Q : State → Prop) (_ : Cx p s m args c cc nL y.cls Ts D tys A)
      (_ : ∀ (pc : Nat) (H : Heap) (locs : List Loc) (ls : Array Slot), decode cc pc = .ok (.ireturn, 1) → sS D vwCl A s.heap w1 H locs → W p l e rm s m args below meth c H locs 0 0 Q (F0 m pc ls [.int r])) (ls : Array Slot), lv_has ls nL (lv_args 0 av) → sS D vwCl A s.heap ws s.heap [] → W p l e rm s m args below meth c s.heap [] 0 0 Q (F0 m 0 ls [])) :
    Met l y Ts rm (sPc D vwCl tys av ws sz) (sQi D vwCl ws w1 sz r) 0 0 (va_A ws sz) := by
  refine Met.ofW (cc := cc) (maxL := nL) (ret := some rt) hy hw ?_
  intro p e s m args below meth c s₁ B hml hv
  obtain ⟨rfl, hsz, hP, hK, hD0⟩ := hv
  have hlocks := B.notSynchronized
  subst hsz
  have hl := lv_entry av (n := nL) hlen
  rw [lg_entry_eq]
  have hr := B.returns
  refine body p e s m _ below meth c (va_A ws s.heap.size) _ ⟨B.exec, B.bytes, hml, findClass_of_methodNamed B.named, atoms_spec (ws := Ts) B.pre, hK, fun q h => Or.inr h⟩ (fun pc H locs ls hd hS => ?_) _ hl ⟨hP, hD0.self, va_S.rf⟩
  have hnar : narrow rt (.int r) = .int r := by
    rcases hn with rfl | ⟨rfl, rfl | rfl⟩ <;> rfl
  exact W.zret B.exec B.bytes hr hnar (fun t ht hW => ⟨⟨r, (), rfl, rfl, by rw [ht]; exact hS.1, hS.2.1⟩, hS.2.2.F ht⟩) hS.2.2.2.2 hd
theorem s_enter_l {r : Int64} (hy : plainName y.cls = true) (hw : Ts = Cond.code y cc nL (some .long) :: Ts') (hlen : (lg_sl av).length ≤ nL)
    (body : ∀ (p : Program) (e : Env) (s : State) (m : MethodId) (args : Array Value) (below : List Frame) (meth : Method) (c : Code) (A : Nat → Prop) (Q : State → Prop) (_ : Cx p s m args c cc nL y.cls Ts D tys A)
      (_ : ∀ (pc : Nat) (H : Heap) (locs : List Loc) (ls : Array Slot), decode cc pc = .ok (.lreturn, 1) → sS D vwCl A s.heap w1 H locs → W p l e rm s m args below meth c H locs 0 0 Q (F0 m pc ls [.long r])) (ls : Array Slot), lv_has ls nL (lv_args 0 av) → sS D vwCl A s.heap ws s.heap [] → W p l e rm s m args below meth c s.heap [] 0 0 Q (F0 m 0 ls [])) :
    Met l y Ts rm (sPc D vwCl tys av ws sz) (sQl D vwCl ws w1 sz r) 0 0 (va_A ws sz) := by
  refine Met.ofW (cc := cc) (maxL := nL) (ret := some .long) hy hw ?_
  intro p e s m args below meth c s₁ B hml hv
  obtain ⟨rfl, hsz, hP, hK, hD0⟩ := hv
  have hlocks := B.notSynchronized
  subst hsz
  have hl := lv_entry av (n := nL) hlen
  rw [lg_entry_eq]
  have hr := B.returns
  refine body p e s m _ below meth c (va_A ws s.heap.size) _ ⟨B.exec, B.bytes, hml, findClass_of_methodNamed B.named, atoms_spec (ws := Ts) B.pre, hK, fun q h => Or.inr h⟩ (fun pc H locs ls hd hS => ?_) _ hl ⟨hP, hD0.self, va_S.rf⟩
  exact W.lret B.exec B.bytes hr (fun t ht hW => ⟨⟨r, (), rfl, rfl, by rw [ht]; exact hS.1, hS.2.1⟩, hS.2.2.F ht⟩) hS.2.2.2.2 hd
theorem s_enter_v (hy : plainName y.cls = true) (hw : Ts = Cond.code y cc nL none :: Ts') (hlen : (lg_sl av).length ≤ nL)
    (body : ∀ (p : Program) (e : Env) (s : State) (m : MethodId) (args : Array Value) (below : List Frame) (meth : Method) (c : Code) (A : Nat → Prop) (Q : State → Prop) (_ : Cx p s m args c cc nL y.cls Ts D tys A)
      (_ : ∀ (pc : Nat) (H : Heap) (locs : List Loc) (ls : Array Slot), decode cc pc = .ok (.return_, 1) → sS D vwCl A s.heap w1 H locs → W p l e rm s m args below meth c H locs 0 0 Q (F0 m pc ls [])) (ls : Array Slot), lv_has ls nL (lv_args 0 av) → sS D vwCl A s.heap ws s.heap [] → W p l e rm s m args below meth c s.heap [] 0 0 Q (F0 m 0 ls [])) :
    Met l y Ts rm (sPc D vwCl tys av ws sz) (sQv D vwCl ws w1 sz) 0 0 (va_A ws sz) := by
  refine Met.ofW (cc := cc) (maxL := nL) (ret := none) hy hw ?_
  intro p e s m args below meth c s₁ B hml hv
  obtain ⟨rfl, hsz, hP, hK, hD0⟩ := hv
  have hlocks := B.notSynchronized
  subst hsz
  have hl := lv_entry av (n := nL) hlen
  rw [lg_entry_eq]
  have hr := B.returns
  refine body p e s m _ below meth c (va_A ws s.heap.size) _ ⟨B.exec, B.bytes, hml, findClass_of_methodNamed B.named, atoms_spec (ws := Ts) B.pre, hK, fun q h => Or.inr h⟩ (fun pc H locs ls hd hS => ?_) _ hl ⟨hP, hD0.self, va_S.rf⟩
  exact W.vret B.exec B.bytes hr (fun t ht hW => ⟨⟨(), rfl, trivial, by rw [ht]; exact hS.1, hS.2.1⟩, hS.2.2.F ht⟩) hS.2.2.2.2 hd
end SE
