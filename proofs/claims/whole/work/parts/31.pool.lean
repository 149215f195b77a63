/-! nine arguments, of which a call sees one: the pool; calls from a world with a tail -/
section MMpool
def mm_o {δ : Type} (o : Option Nat) (a : Option δ) (k : Nat → Option δ) : Option δ := match o with
  | none => a
  | some j => k j
theorem mm_oN {δ : Type} {a x : Option δ} {k : Nat → Option δ} (h : mm_o none a k = x) : a = x := h
theorem mm_oS {δ : Type} {a x : Option δ} {k : Nat → Option δ} {j : Nat} (h : mm_o (some j) a k = x) : k j = x := h
variable {p : Program} {l : Launch} {e : Env} {R : Room} {s : State} {m : MethodId} {args : Array Value} {below : List Frame} {meth : Method} {c : Code} {H : Heap} {locs : List Loc} {cells slots mc ms : Nat} {Q : State → Prop}
variable {cc : ByteArray} {pc : Nat} {ls : Array Slot} {rest st0 : List Value} {D : va_G} {cl : List vw_C} {tys : List (ClassId × FieldType)} {A : Nat → Prop} {X X' wc cx rx wr w1 pl pl1 : va_W}
theorem mm_wsubT (h : mm_w D cl A s (X ++ pl) H locs) (is : List Nat) (hn : va_nd is = true) (hm : is.map (fun i => X[i]?) = X'.map some) : mm_w D cl A s (X' ++ pl) H locs := ⟨h.1.part is hm, h.2.1.part is hn hm, h.2.2⟩
theorem mm_ciT {r : Int32} {a : Array Value} (hr : va_Run p l e R s m args below meth c H locs cells slots mc ms (F0 m pc ls st0) rest (mm_qi D cl tys (va_A wc H.size) w1 r a) (va_A wc H.size)) (hw : mm_w D cl A s (X ++ pl) H locs) (hA : ∀ q, s.heap.size ≤ q → A q) (isC isR : List Nat) (hC : isC.map (fun i => X[i]?) = wc.map some) (hC2 : isC.map (fun i => (X ++ pl)[i]?) = wc.map some) (hR : isR.map (fun i => X[i]?) = wr.map some) (hn : va_nd isR = true) (hdis : ∀ i ∈ isR, i ∉ isC)
    (kk : ∀ (H : Heap) (locs : List Loc), mm_w D cl A s ((wr ++ w1) ++ pl) H locs → W p l e R s m args below meth c H locs (cells + mc) (slots + ms) Q (F0 m (pc + 3) ls (.int r :: rest))) : W p l e R s m args below meth c H locs cells slots Q (F0 m pc ls st0) := by
  have hFc := va_free (wc := wc) hw.2.1 hw.2.2 hA isC hC2
  refine va_calli hr hw.2.2 (fun q _ h => hFc q h) hFc (fun r' u t H1 locs1 ht hvm hr' hB hz1 hk1 hS => ?_)
  subst hr'
  obtain ⟨hP1, hK1, hD1⟩ := hB
  rw [ht] at hP1
  obtain ⟨hP, hD⟩ := va_joinQ hw.1 hw.2.1 isC isR hC hR hn hdis hk1 hFc hP1 hD1
  exact kk H1 locs1 ⟨hP, hD, hS⟩
theorem mm_cqT {r : Option Nat} {a : Array Value} (hr : va_Run p l e R s m args below meth c H locs cells slots mc ms (F0 m pc ls st0) rest (mm_qq D cl tys (va_A wc H.size) w1 r a) (va_A wc H.size)) (hw : mm_w D cl A s (X ++ pl) H locs) (hA : ∀ q, s.heap.size ≤ q → A q) (isC isR : List Nat) (hC : isC.map (fun i => X[i]?) = wc.map some) (hC2 : isC.map (fun i => (X ++ pl)[i]?) = wc.map some) (hR : isR.map (fun i => X[i]?) = wr.map some) (hn : va_nd isR = true) (hdis : ∀ i ∈ isR, i ∉ isC)
    (kk : ∀ (H : Heap) (locs : List Loc), mm_w D cl A s ((wr ++ w1) ++ pl) H locs → W p l e R s m args below meth c H locs (cells + mc) (slots + ms) Q (F0 m (pc + 3) ls (va_rf r :: rest))) : W p l e R s m args below meth c H locs cells slots Q (F0 m pc ls st0) := by
  have hFc := va_free (wc := wc) hw.2.1 hw.2.2 hA isC hC2
  refine va_callq hr hw.2.2 (fun q _ h => hFc q h) hFc (fun r' u t H1 locs1 ht hvm hr' hB hz1 hk1 hS => ?_)
  subst hr'
  obtain ⟨hP1, hK1, hD1⟩ := hB
  rw [ht] at hP1
  obtain ⟨hP, hD⟩ := va_joinQ hw.1 hw.2.1 isC isR hC hR hn hdis hk1 hFc hP1 hD1
  exact kk H1 locs1 ⟨hP, hD, hS⟩
theorem mm_cvT {a : Array Value} (hr : va_Run p l e R s m args below meth c H locs cells slots mc ms (F0 m pc ls st0) rest (mm_qv D cl tys (va_A wc H.size) w1 a) (va_A wc H.size)) (hw : mm_w D cl A s (X ++ pl) H locs) (hA : ∀ q, s.heap.size ≤ q → A q) (isC isR : List Nat) (hC : isC.map (fun i => X[i]?) = wc.map some) (hC2 : isC.map (fun i => (X ++ pl)[i]?) = wc.map some) (hR : isR.map (fun i => X[i]?) = wr.map some) (hn : va_nd isR = true) (hdis : ∀ i ∈ isR, i ∉ isC)
    (kk : ∀ (H : Heap) (locs : List Loc), mm_w D cl A s ((wr ++ w1) ++ pl) H locs → W p l e R s m args below meth c H locs (cells + mc) (slots + ms) Q (F0 m (pc + 3) ls rest)) : W p l e R s m args below meth c H locs cells slots Q (F0 m pc ls st0) := by
  have hFc := va_free (wc := wc) hw.2.1 hw.2.2 hA isC hC2
  refine va_callv hr hw.2.2 (fun q _ h => hFc q h) hFc (fun u t H1 locs1 ht hvm hr' hB hz1 hk1 hS => ?_)
  obtain ⟨hP1, hK1, hD1⟩ := hB
  rw [ht] at hP1
  obtain ⟨hP, hD⟩ := va_joinQ hw.1 hw.2.1 isC isR hC hR hn hdis hk1 hFc hP1 hD1
  exact kk H1 locs1 ⟨hP, hD, hS⟩
theorem mm_ciP {r : Int32} {a : Array Value} (hr : va_Run p l e R s m args below meth c H locs cells slots mc ms (F0 m pc ls st0) rest (mm_qi D cl tys (va_A (cx ++ pl) H.size) (rx ++ pl1) r a) (va_A (cx ++ pl) H.size)) (hw : mm_w D cl A s (X ++ pl) H locs) (hA : ∀ q, s.heap.size ≤ q → A q) (isC isR : List Nat) (hC : isC.map (fun i => X[i]?) = cx.map some) (hR : isR.map (fun i => X[i]?) = wr.map some) (hn : va_nd isR = true) (hdis : ∀ i ∈ isR, i ∉ isC)
    (kk : ∀ (H : Heap) (locs : List Loc), mm_w D cl A s ((wr ++ rx) ++ pl1) H locs → W p l e R s m args below meth c H locs (cells + mc) (slots + ms) Q (F0 m (pc + 3) ls (.int r :: rest))) : W p l e R s m args below meth c H locs cells slots Q (F0 m pc ls st0) := by
  have hFc := va_freeP hw.2.1 hw.2.2 hA isC hC
  refine va_calli hr hw.2.2 (fun q _ h => hFc q h) hFc (fun r' u t H1 locs1 ht hvm hr' hB hz1 hk1 hS => ?_)
  subst hr'
  obtain ⟨hP1, hK1, hD1⟩ := hB
  rw [ht] at hP1
  obtain ⟨hP, hD⟩ := va_joinP hw.1 hw.2.1 isC isR hC hR hn hdis hk1 hFc hP1 hD1
  exact kk H1 locs1 ⟨hP, hD, hS⟩
theorem mm_pvP {Z : (Nat → Prop) → State → Heap → Prop} (Zo : mm_Zok Z) (hK : va_K D cl tys s) (hw : mm_w D cl A s (X ++ pl) H locs) (hZ : Z A s s.heap) (hA : ∀ q, s.heap.size ≤ q → A q) (isC : List Nat) (hn : va_nd isC = true) (hC : isC.map (fun i => X[i]?) = cx.map some)
    {ci q0 : Nat} {q : vw_C} {b : Nat} {fs : List Value} (hc : cl[ci]? = some q) (he : (cx ++ pl)[q0]? = some (b, .inr (ci, fs))) {As : List Value} : PreV s H q.1 b (mm_pre D cl tys Z (cx ++ pl) H.size (.ref b :: As)) As := by
  have hPc := hw.1.part isC hC
  have hDc := hw.2.1.part isC hn hC
  have hFc := va_freeP hw.2.1 hw.2.2 hA isC hC
  refine ⟨fun a U g mk q => ?_, va_recv hK hPc hc he, fun U hU hW => ⟨rfl, by rw [hU], by rw [hU]; exact hPc, va_K.moved hW.alike hK, hDc.weaken (fun _ _ _ _ => trivial), ?_⟩⟩
  · obtain ⟨q0, q1, qP, qK, qD, qZ⟩ := q
    exact ⟨q0, q1, qP, va_K.moved (u := U) (U := U.calling g mk a) (Vm.Alike.refl U.vm) qK, qD, Zo.2.2.2 _ _ _ _ _ _ qZ⟩
  · rw [hU]
    exact Zo.2.2.1 _ _ _ _ (Zo.1 _ _ _ _ hW (Zo.2.1 _ _ _ _ hZ (fun a h1 h2 => hw.2.2.2.1 a h1 h2))) hFc
theorem mm_aret {v : Value} {r : Option Nat} {nmC : String} (hx : p.tables.exec = Jvm.exec) (hb : c.code = cc) (hr : meth.sig.returnType = some (.object nmC)) (hlocks : meth.locks = false) (hK : va_K D cl tys s) (hw : mm_w D cl A s w1 H locs) (hv : v = va_rf r) (hdg : decode cc pc = .ok (.areturn, 1)) :
    W p l e R s m args below meth c H locs cells slots (MQ below (mm_qq D cl tys A w1 r) args s cells slots A) (F0 m pc ls [v]) := by
  subst hv
  exact W.aret hx hb hr (Or.inl ⟨_, rfl⟩) (va_rf_or r) (fun t ht hW => ⟨⟨r, (), rfl, rfl, by rw [ht]; exact hw.1, va_K.moved hW.alike hK, hw.2.1⟩, hw.2.2.F ht⟩) hw.2.2.2.2 hdg hlocks
end MMpool
section MMargs
abbrev acell (ha hr hc ad : Nat → Nat) (cC : ClassId) (kd : Nat → Nat) (vl : Nat → Int64) (sz tl : Nat → Int32) (tk : Nat → Nat → Int32) (j : Nat) : va_W := [(ha j, .inr (3, [.ref (ad (kd j)), .long (vl j), .int (sz j), .ref (hr j)])), (hr j, .inr (0, [.ref (hc j), .int (tl j)])), (hc j, .inl (cC, 64, .inl (tk j)))]
def apool (ha hr hc ad : Nat → Nat) (cC : ClassId) (kd : Nat → Nat) (vl : Nat → Int64) (sz tl : Nat → Int32) (tk : Nat → Nat → Int32) : va_W := (List.range 9).flatMap (acell ha hr hc ad cC kd vl sz tl tk)
def abut (ha hr hc ad : Nat → Nat) (cC : ClassId) (kd : Nat → Nat) (vl : Nat → Int64) (sz tl : Nat → Int32) (tk : Nat → Nat → Int32) (j : Nat) : va_W := ((List.range 9).erase j).flatMap (acell ha hr hc ad cC kd vl sz tl tk)
variable {ha hr hc ad : Nat → Nat} {cC : ClassId} {kd : Nat → Nat} {vl : Nat → Int64} {sz tl : Nat → Int32} {tk : Nat → Nat → Int32} {j : Nat}
variable {s : State} {H : Heap} {locs : List Loc} {D : va_G} {cl : List vw_C} {A : Nat → Prop} {X : va_W}
theorem ap_perm (hj : j < 9) : (apool ha hr hc ad cC kd vl sz tl tk).Perm (acell ha hr hc ad cC kd vl sz tl tk j ++ abut ha hr hc ad cC kd vl sz tl tk j) := by
  have h := (List.perm_cons_erase (List.mem_range.mpr hj)).flatMap_right (acell ha hr hc ad cC kd vl sz tl tk)
  rw [List.flatMap_cons] at h
  exact h
theorem ap_in (hj : j < 9) (hw : mm_w D cl A s (X ++ apool ha hr hc ad cC kd vl sz tl tk) H locs) : mm_w D cl A s ((X ++ acell ha hr hc ad cC kd vl sz tl tk j) ++ abut ha hr hc ad cC kd vl sz tl tk j) H locs := by
  rw [List.append_assoc]
  exact mm_wperm ((ap_perm hj).append_left X) hw
theorem ap_back (hj : j < 9) (hw : mm_w D cl A s ((X ++ acell ha hr hc ad cC kd vl sz tl tk j) ++ abut ha hr hc ad cC kd vl sz tl tk j) H locs) : mm_w D cl A s (X ++ apool ha hr hc ad cC kd vl sz tl tk) H locs := by
  rw [List.append_assoc] at hw
  exact mm_wperm ((ap_perm hj).symm.append_left X) hw
theorem ab_eq {kd' : Nat → Nat} {vl' : Nat → Int64} {sz' tl' : Nat → Int32} {tk' : Nat → Nat → Int32} (h : ∀ i, i ≠ j → kd' i = kd i ∧ vl' i = vl i ∧ sz' i = sz i ∧ tl' i = tl i ∧ tk' i = tk i) : abut ha hr hc ad cC kd vl sz tl tk j = abut ha hr hc ad cC kd' vl' sz' tl' tk' j := by
  unfold abut
  have hq : ∀ l : List Nat, (∀ i ∈ l, i ≠ j) → l.flatMap (acell ha hr hc ad cC kd vl sz tl tk) = l.flatMap (acell ha hr hc ad cC kd' vl' sz' tl' tk') := by
    intro l
    induction l with
    | nil => intro _; rfl
    | cons a l ih =>
      intro hl
      rw [List.flatMap_cons, List.flatMap_cons, ih (fun i hi => hl i (List.mem_cons_of_mem _ hi))]
      obtain ⟨h1, h2, h3, h4, h5⟩ := h a (hl a List.mem_cons_self)
      simp only [acell, h1, h2, h3, h4, h5]
  exact hq _ (fun i hi => ((List.Nodup.mem_erase_iff List.nodup_range).mp hi).1)
theorem ap_out3 (hj : j < 9) {k : Nat} {v : Int64} {z : Int32} (hw : mm_w D cl A s ((X ++ [(ha j, .inr (3, [.ref (ad k), .long v, .int z, .ref (hr j)])), (hr j, .inr (0, [.ref (hc j), .int (tl j)])), (hc j, .inl (cC, 64, .inl (tk j)))]) ++ abut ha hr hc ad cC kd vl sz tl tk j) H locs) :
    mm_w D cl A s (X ++ apool ha hr hc ad cC (va_up kd j k) (va_up vl j v) (va_up sz j z) tl tk) H locs := by
  refine ap_back hj ?_
  rw [← ab_eq (kd' := va_up kd j k) (vl' := va_up vl j v) (sz' := va_up sz j z) (tl' := tl) (tk' := tk) (fun i hi => ⟨va_up_ne _ _ hi, va_up_ne _ _ hi, va_up_ne _ _ hi, rfl, rfl⟩)]
  simp only [acell, va_up_self]
  exact hw
theorem ap_out2 (hj : j < 9) {t : Int32} {u : Nat → Int32} (hw : mm_w D cl A s ((X ++ [(ha j, .inr (3, [.ref (ad (kd j)), .long (vl j), .int (sz j), .ref (hr j)])), (hr j, .inr (0, [.ref (hc j), .int t])), (hc j, .inl (cC, 64, .inl u))]) ++ abut ha hr hc ad cC kd vl sz tl tk j) H locs) :
    mm_w D cl A s (X ++ apool ha hr hc ad cC kd vl sz (va_up tl j t) (va_up tk j u)) H locs := by
  refine ap_back hj ?_
  rw [← ab_eq (kd' := kd) (vl' := vl) (sz' := sz) (tl' := va_up tl j t) (tk' := va_up tk j u) (fun i hi => ⟨rfl, rfl, rfl, va_up_ne _ _ hi, va_up_ne _ _ hi⟩)]
  simp only [acell, va_up_self]
  exact hw
end MMargs

