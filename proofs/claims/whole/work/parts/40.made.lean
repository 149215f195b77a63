/-! constructors: what is made is told with its addresses -/
section MMmade
variable {p : Program} {l : Launch} {e : Env} {R : Room} {s : State} {m : MethodId} {args : Array Value} {below : List Frame} {meth : Method} {c : Code} {H : Heap} {locs : List Loc} {cells slots mc ms : Nat} {Q : State → Prop}
variable {cc : ByteArray} {pc : Nat} {ls : Array Slot} {rest st0 : List Value} {D : va_G} {cl : List vw_C} {tys : List (ClassId × FieldType)} {A : Nat → Prop} {ws wc wr w1 : va_W}
def mm_qn (D : va_G) (cl : List vw_C) (tys : List (ClassId × FieldType)) (A : Nat → Prop) (P : va_W → Prop) : Array Value → State → Outcome → State → Prop := va_Qv (fun _ : Unit => True) (fun _ t => ∃ w1 : va_W, P w1 ∧ va_P D cl w1 t.heap ∧ va_K D cl tys t ∧ va_D A w1) A
theorem mm_nret {P : va_W → Prop} (hx : p.tables.exec = Jvm.exec) (hb : c.code = cc) (hr : meth.sig.returnType = none) (hlocks : meth.locks = false) (hK : va_K D cl tys s) (hw : mm_w D cl A s w1 H locs) (hp : P w1) (hdg : decode cc pc = .ok (.return_, 1)) :
    W p l e R s m args below meth c H locs cells slots (MQ below (mm_qn D cl tys A P) args s cells slots A) (F0 m pc ls []) :=
  W.vret hx hb hr (fun t ht hW => ⟨⟨(), rfl, trivial, w1, hp, by rw [ht]; exact hw.1, va_K.moved hW.alike hK, hw.2.1⟩, hw.2.2.F ht⟩) hw.2.2.2.2 hdg hlocks
theorem mm_cn {P : va_W → Prop} {a : Array Value} (hr : va_Run p l e R s m args below meth c H locs cells slots mc ms (F0 m pc ls st0) rest (mm_qn D cl tys (va_A wc H.size) P a) (va_A wc H.size)) (hw : mm_w D cl A s ws H locs) (hA : ∀ q, s.heap.size ≤ q → A q) (isC isR : List Nat) (hC : isC.map (fun i => ws[i]?) = wc.map some) (hR : isR.map (fun i => ws[i]?) = wr.map some) (hn : va_nd isR = true) (hdis : ∀ i ∈ isR, i ∉ isC)
    (kk : ∀ (H : Heap) (locs : List Loc) (w1 : va_W), P w1 → mm_w D cl A s (wr ++ w1) H locs → W p l e R s m args below meth c H locs (cells + mc) (slots + ms) Q (F0 m (pc + 3) ls rest)) : W p l e R s m args below meth c H locs cells slots Q (F0 m pc ls st0) := by
  have hFc := va_free (wc := wc) hw.2.1 hw.2.2 hA isC hC
  refine va_callv hr hw.2.2 (fun q _ h => hFc q h) hFc (fun u t H1 locs1 ht hvm hr' hB hz1 hk1 hS => ?_)
  obtain ⟨w1, hp, hP1, hK1, hD1⟩ := hB
  rw [ht] at hP1
  obtain ⟨hP, hD⟩ := va_join hw.1 hw.2.1 isC isR hC hR hn hdis hk1 hFc hP1 hD1
  exact kk H1 locs1 w1 hp ⟨hP, hD, hS⟩
theorem va_RA_find {cA : ClassId} {ty : FieldType} (h : va_RA s cA ty) : s.vm.findClass ("[" ++ ty.toString) = some cA := by
  cases ty with
  | object C => obtain ⟨kA, comp, h1, h2, h3, h4⟩ := h; exact h4
  | _ => exact h
theorem mm_cA {c1 c2 : ClassId} {ty : FieldType} (hK : va_K D cl tys s) (i j : Nat) (h1 : tys[i]? = some (c1, ty)) (h2 : tys[j]? = some (c2, ty)) : c1 = c2 := by
  have a := va_RA_find (hK.2 i _ h1).2
  have b := va_RA_find (hK.2 j _ h2).2
  rw [a] at b
  exact Option.some.inj b
theorem mm_arrI (cA : ClassId) (n : Nat) : vp_cell cA (n, .inl (fun _ => (0 : Int32))) = arrV cA n (fun _ => defaultValue .int) := rfl
theorem mm_arrC (cA : ClassId) (n : Nat) : vp_cell cA (n, .inl (fun _ => (0 : Int32))) = arrV cA n (fun _ => defaultValue .char) := rfl
theorem mm_arrL (cA : ClassId) (n : Nat) : vp_cell cA (n, .inr (.inl (fun _ => (0 : Int64)))) = arrV cA n (fun _ => defaultValue .long) := rfl
end MMmade

