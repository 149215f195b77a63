/-! what a 'throw new X("text")' needs beside the words, and how it ends -/
section MMthrow
def tTh : String := "java/lang/Throwable"
def tIA : String := "java/lang/IllegalArgumentException"
def tIS : String := "java/lang/IllegalStateException"
def tUp : List String := ["java/lang/RuntimeException", "java/lang/Exception"]
def zs (n d : String) (A : Nat → Prop) (U : State) (H : Heap) : Prop := ∃ (c : ClassId) (k : Class) (i : Nat) (f : Field) (a : Nat) (cell : Cell) (v : Value), U.vm.findClass "java/lang/Throwable" = some c ∧ U.fieldFound? "java/lang/Throwable" n d = some (c, k, i, f) ∧ f.isStatic = true ∧ k.statics = some a ∧ H[a]? = some cell ∧ cell.vm.isStatics = true ∧ cell.cls = c ∧ f.slot < cell.slots.size ∧ k.staticTypes[f.slot]? = some f.type ∧ cell.slots[f.slot]? = some v ∧ v.isRef = true ∧ ¬ A a
theorem zs.moved {n d : String} {A : Nat → Prop} {u U : State} {H : Heap} (hvm : u.vm.Alike U.vm) (h : zs n d A u H) : zs n d A U H := by
  obtain ⟨c, k, i, f, a, cell, v, h0, h1, h2, h3, h4, h5, h6, h7, h8, h9⟩ := h
  obtain ⟨k', hi', he⟩ := State.fieldFound?_setVm hvm h1
  exact ⟨c, k', i, f, a, cell, v, by rw [hvm.findClass]; exact h0, hi', h2, by rw [he]; exact h3, h4, h5, h6, h7, by rw [he]; exact h8, h9⟩
theorem zs.kept {n d : String} {A : Nat → Prop} {U : State} {H H1 : Heap} (h : zs n d A U H) (hq : ∀ a : Nat, a < H.size → ¬ A a → H1[a]? = H[a]?) : zs n d A U H1 := by
  obtain ⟨c, k, i, f, a, cell, v, h0, h1, h2, h3, h4, h5, h6, h7, h8, h9, h10, h11⟩ := h
  exact ⟨c, k, i, f, a, cell, v, h0, h1, h2, h3, by rw [hq a (Array.getElem?_eq_some_iff.mp h4).1 h11]; exact h4, h5, h6, h7, h8, h9, h10, h11⟩
theorem zs.narrow {n d : String} {A B : Nat → Prop} {U : State} {H : Heap} (h : zs n d A U H) (hAB : ∀ q, B q → A q) : zs n d B U H := by
  obtain ⟨c, k, i, f, a, cell, v, h0, h1, h2, h3, h4, h5, h6, h7, h8, h9, h10, h11⟩ := h
  exact ⟨c, k, i, f, a, cell, v, h0, h1, h2, h3, h4, h5, h6, h7, h8, h9, h10, fun z => h11 (hAB a z)⟩
theorem zs.lays {n d : String} {A : Nat → Prop} {U : State} {args : Array Value} (h : zs n d A U U.heap) : (Cond.laysStatic "java/lang/Throwable" n d).before args U = true := by
  obtain ⟨c, k, i, f, a, cell, v, h0, h1, h2, h3, h4, h5, h6, h7, h8, h9⟩ := h
  exact Cond.laysStatic_of h0 h1 h2 h3 h4 h5 h6 h7 h8
theorem zs.ref {n d : String} {A : Nat → Prop} {U : State} {args : Array Value} (h : zs n d A U U.heap) : (Cond.isRef (.static "java/lang/Throwable" n d)).before args U = true := by
  obtain ⟨c, k, i, f, a, cell, v, h0, h1, h2, h3, h4, h5, h6, h7, h8, h9, h10, h11⟩ := h
  have hv := Term.static_eval (args := args) (first := U) (o := none) (idx := []) h1 h2 h3 h4 h5 h9
  cases v <;> simp [Value.isRef] at h10 <;> simp [Cond.before, Cond.holds, Cond.value, hv]
def tW : List Cond := [.castable "java/lang/IllegalArgumentException" "java/lang/IllegalArgumentException", .castable "java/lang/IllegalStateException" "java/lang/IllegalStateException", .declares ⟨"java/lang/RuntimeException", "<init>", "(Ljava/lang/String;)V"⟩, .declares ⟨"java/lang/Exception", "<init>", "(Ljava/lang/String;)V"⟩, .declares ⟨"java/lang/Throwable", "<init>", "(Ljava/lang/String;)V"⟩]
def zt (A : Nat → Prop) (U : State) (H : Heap) : Prop := (∀ w ∈ tW, va_Nw w U) ∧ zs "UNASSIGNED_STACK" "[Ljava/lang/StackTraceElement;" A U H ∧ zs "SUPPRESSED_SENTINEL" "Ljava/util/List;" A U H
/-- the words of a throw out of those that a method has, and of zt -/
theorem zt_atoms {own X : String} {ic : Nat} {w0 : Cond} {A : Nat → Prop} {s : State} {args : Array Value} (hts : ∀ x ∈ w0 :: lw_g, x.before args s = true) (hz : zt A s s.heap)
    (hX : ∀ w ∈ Jvm.Bundle.ownAtoms own ic X tUp, w ∈ lw_g ∨ w ∈ tW ∨ w = .laysStatic "java/lang/Throwable" "UNASSIGNED_STACK" "[Ljava/lang/StackTraceElement;" ∨ w = .laysStatic "java/lang/Throwable" "SUPPRESSED_SENTINEL" "Ljava/util/List;" ∨ w = .isRef (.static "java/lang/Throwable" "UNASSIGNED_STACK" "[Ljava/lang/StackTraceElement;") ∨ w = .isRef (.static "java/lang/Throwable" "SUPPRESSED_SENTINEL" "Ljava/util/List;"))
    (hT : ∀ w ∈ tW, w.onTables = true) : ∀ w ∈ Jvm.Bundle.ownAtoms own ic X tUp, w.before args s = true := by
  intro w hw
  rcases hX w hw with h | h | rfl | rfl | rfl | rfl
  · exact hts _ (List.mem_cons_of_mem _ h)
  · exact va_Nw.use (hT w h) (hz.1 w h)
  · exact hz.2.1.lays
  · exact hz.2.2.lays
  · exact hz.2.1.ref
  · exact hz.2.2.ref
theorem tW_on : ∀ w ∈ tW, w.onTables = true := by decide +kernel
set_option maxRecDepth 100000 in
theorem own63 : ∀ w ∈ Jvm.Bundle.ownAtoms "DirectivePrinter" 63 "java/lang/IllegalArgumentException" tUp, w ∈ lw_g ∨ w ∈ tW ∨ w = .laysStatic "java/lang/Throwable" "UNASSIGNED_STACK" "[Ljava/lang/StackTraceElement;" ∨ w = .laysStatic "java/lang/Throwable" "SUPPRESSED_SENTINEL" "Ljava/util/List;" ∨ w = .isRef (.static "java/lang/Throwable" "UNASSIGNED_STACK" "[Ljava/lang/StackTraceElement;") ∨ w = .isRef (.static "java/lang/Throwable" "SUPPRESSED_SENTINEL" "Ljava/util/List;") := by decide +kernel
set_option maxRecDepth 100000 in
theorem own106 : ∀ w ∈ Jvm.Bundle.ownAtoms "DirectivePrinter" 106 "java/lang/IllegalStateException" tUp, w ∈ lw_g ∨ w ∈ tW ∨ w = .laysStatic "java/lang/Throwable" "UNASSIGNED_STACK" "[Ljava/lang/StackTraceElement;" ∨ w = .laysStatic "java/lang/Throwable" "SUPPRESSED_SENTINEL" "Ljava/util/List;" ∨ w = .isRef (.static "java/lang/Throwable" "UNASSIGNED_STACK" "[Ljava/lang/StackTraceElement;") ∨ w = .isRef (.static "java/lang/Throwable" "SUPPRESSED_SENTINEL" "Ljava/util/List;") := by decide +kernel
/-- 'throw new X("text")', with nothing written before it -/
theorem mm_throw0 {p : Program} {l : Launch} {e : Env} {R : Room} {s : State} {m : MethodId} {args : Array Value} {below : List Frame} {meth : Method} {c : Code} {Q : State → Prop} {cc : ByteArray} {pc ix ic is q : Nat} {ls : Array Slot} {own X tx : String}
    (hx : p.tables.exec = Jvm.exec) (htr : e.platform.stackTraces = false) (hb : c.code = cc) (hml : c.maxLocals = ls.size) (hlocks : meth.locks = false) (hown : s.vm.findClass own = some m.cls) (hh : c.exceptionTable.isEmpty = true)
    (hcl : (Cond.classLink own ix X).before args s = true) (hini : (Cond.initialized X).before args s = true) (hfit : Jvm.Bundle.fit X = true) (hat : ∀ w ∈ Jvm.Bundle.ownAtoms own ic X tUp, w.before args s = true) (hstr : vk_R own is tx q s)
    (d0 : decode cc pc = .ok (.new ix, 3)) (d3 : decode cc (pc + 3) = .ok (.dup, 1)) (d4 : decode cc (pc + 4) = .ok (.ldc is, 2)) (d6 : decode cc (pc + 6) = .ok (.invokespecial ic, 3)) (d9 : decode cc (pc + 9) = .ok (.athrow, 1))
    (hRc : 1 ≤ R.cells) (hRs : 6 ≤ R.slots) (hRf : 6 ≤ R.frames) (hRl : 90 ≤ R.locals)
    (hQ : ∀ (t : State) (a : Addr) (ce : Cell), t.status = .running → Ended t below (.threw a) → s.WarmedH t.vm → s.sameButNew ({ t with vm := s.vm } : State) [] 1 6 → t.heap[a]? = some ce → Jvm.Bundle.OwnCell args s X a (.ref q) ce → Q t) :
    W p l e R s m args below meth c s.heap [] 0 0 Q (F0 m pc ls []) := by
  intro T hT Y
  obtain ⟨vm₁, cX, kX, hfX, hkX, -, -, X₁, st1⟩ := Y.newCold hx (own := own) (C := X) (index := ix) (n := 6) hown hcl (hat (.instantiable X 6) (by simp [Jvm.Bundle.ownAtoms])) hini (g := F0 m pc ls []) rfl (by rw [hb]; exact d0) (by omega) (by omega)
  generalize hT1 : (T.setVm vm₁).pushCell { cls := cX, slots := kX.instanceTypes.map defaultValue, vm := .none } = T1 at X₁ st1
  have hcellA : T1.heap[T.heap.size]? = some (freshCell cX kX) := by rw [← hT1]; exact State.heap_pushCell_size _ _
  obtain ⟨U, hsteps, hrun, hend, hW, hsame, ce, hce, K⟩ := X₁.ctorThrowS hx htr (own := own) (cls := X) (names := tUp) (ic := ic) hown hfit (by decide +kernel) hat (fun y hy => by cases hy) hfX hkX hcellA (by rw [hT]; exact Nat.le_refl _) (msg := .ref q) rfl
    (g := F0 m (pc + 6) ls [.ref q, .ref T.heap.size, .ref T.heap.size]) rfl hml.symm rfl rfl (rest := []) rfl (by rw [hb]; exact d6) (by rw [hb]; exact d9) (covers_of_empty hh _) (by simp [tUp]; omega) (by simp [tUp, Value.category, JFrame.monitorRoom]; omega) hlocks
  refine ⟨U, st1 _ ?_, hQ U _ ce hrun hend hW hsame hce K⟩
  show Steps p.tables e below (T1.setTop (F0 m (pc + 3) ls [.ref T.heap.size])) _
  jvm_step X₁.here [X₁.here.top, hx, hb, d3, Value.category]
  exact X₁.ldcString hx hown (text := tx) (a := q) hstr.1 hstr.2 (g := F0 m (pc + 4) ls [.ref T.heap.size, .ref T.heap.size]) rfl (by rw [hb]; exact d4) _ hsteps
end MMthrow
