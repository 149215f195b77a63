/-! a method that ends with a throw, nothing written: one new cell of six slots -/
section MMthrown
def mm_TE (X : String) : Array Value → State → Outcome → State → Prop := fun _ st o t => ∃ (a : Addr) (ce : Cell), o = .threw a ∧ st.WarmedH t.vm ∧ st.sameButNew ({ t with vm := st.vm } : State) [] 1 6 ∧ t.heap[a]? = some ce ∧ st.vm.findClass X = some ce.cls ∧ ce.vm = .none
def mm_TQ (X : String) (below : List Frame) (args : Array Value) (s : State) : State → Prop := fun t => ∃ o, t.status = .running ∧ Ended t below o ∧ mm_TE X args s o t
theorem mm_TQ_of {X : String} {below : List Frame} {args : Array Value} {s : State} {q : Nat} (t : State) (a : Addr) (ce : Cell) (h1 : t.status = .running) (h2 : Ended t below (.threw a)) (h3 : s.WarmedH t.vm) (h4 : s.sameButNew ({ t with vm := s.vm } : State) [] 1 6) (h5 : t.heap[a]? = some ce) (h6 : Jvm.Bundle.OwnCell args s X a (.ref q) ce) : mm_TQ X below args s t :=
  ⟨.threw a, h1, h2, a, ce, rfl, h3, h4, h5, h6.cls, h6.vm⟩
theorem mm_ofT {l : Launch} (hl : l.stackTraces = false) {D : va_G} {cl : List vw_C} {tys : List (ClassId × FieldType)} {ws : va_W} {cc : ByteArray} {Z : (Nat → Prop) → State → Heap → Prop} {sz : Nat} {av : List Value} {y : MethodName} {w w' : List Cond} {rm : Room} {X : String} {maxL : Nat} {ret : Option FieldType} {own : String} (hy : plainName y.cls = true) (hw : w = Cond.code y cc maxL ret :: w') (ho : y.cls = own)
    (body : ∀ (p : Program) (e : Env) (s : State) (m : MethodId) (below : List Frame) (meth : Method) (c : Code), s.heap.size = sz → mm_cx D cl tys Z p s m av.toArray meth c cc maxL ret own w (va_A ws sz) → mm_w D cl (va_A ws sz) s ws s.heap [] → e.platform.stackTraces = false → c.exceptionTable.isEmpty = true →
      W p l e rm s m av.toArray below meth c s.heap [] 0 0 (mm_TQ X below av.toArray s) (entryFrame m av.toArray maxL)) : MetFree l y (headSpec w rm) (mm_pre D cl tys Z ws sz av) (fun _ _ _ _ _ => True) (mm_TE X) := by
  refine MetFree.of_bodyS (code := cc) (maxLocals := maxL) (ret := ret) hy ?_ ?_
  · intro args s m h hn
    obtain ⟨meth, c, h1, h2, h3, h4, h5, h6, -, -⟩ := Cond.code_spec hn (atoms_spec (ws := w) h _ (by rw [hw]; exact List.mem_cons_self))
    exact ⟨meth, c, h1, h2, h3, h4, h5, h6⟩
  · intro p e s m args below meth c s₁ B hml hv _
    obtain ⟨rfl, hsz, hP, hK, hD0, hZ⟩ := hv
    have hts := atoms_spec (ws := w) B.pre
    have hown : s.vm.findClass own = some m.cls := by rw [← ho]; exact findClass_of_methodNamed B.named
    have hcode : (Cond.code y cc maxL ret).before av.toArray s = true := hts _ (by rw [hw]; exact List.mem_cons_self)
    have X₀ : Stand p l e rm s m av.toArray below meth c s₁ [] 0 0 := Stand.of_body B
    have htr : e.platform.stackTraces = false := by rw [X₀.admits.platform]; exact hl
    have hh0 : s₁.heap = s.heap := by rw [B.state]; rfl
    subst hsz
    obtain ⟨t, a1, o, b1, b2, b3⟩ := body p e s m below meth c rfl ⟨B.exec, B.bytes, B.returns, hml, hown, hts, B.notSynchronized, hK, hZ, fun q h => Or.inr h⟩ ⟨hP, hD0.self, va_S.rf⟩ htr (B.noHandlers hcode) s₁ hh0 X₀
    exact ⟨t, o, a1, b1, b2, b3⟩
end MMthrown

