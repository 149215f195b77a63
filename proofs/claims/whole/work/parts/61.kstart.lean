/-! the classes' and the arrays' ids at the start; a cell of references written otherwise -/
section MMks
theorem mm_wq {D : va_G} {cl : List vw_C} {A : Nat → Prop} {s : State} {H : Heap} {locs : List Loc} {pre r : va_W} {h n : Nat} {cQ : ClassId} {f g : Nat → Option Nat} (hw : mm_w D cl A s (pre ++ (h, .inl (cQ, n, .inr (.inr (.inr (.inr f))))) :: r) H locs) (hfg : ∀ q, q < n → f q = g q) :
    mm_w D cl A s (pre ++ (h, .inl (cQ, n, .inr (.inr (.inr (.inr g))))) :: r) H locs := by
  refine ⟨fun k q hk => ?_, ?_, hw.2.2⟩
  · have hm := List.mem_of_getElem? hk
    have hP : ∀ z ∈ pre ++ (h, .inl (cQ, n, .inr (.inr (.inr (.inr f))))) :: r, va_at D cl z H := fun z hz => by
      obtain ⟨i, hi⟩ := List.getElem?_of_mem hz
      exact hw.1 i z hi
    rcases List.mem_append.mp hm with h1 | h1
    · exact hP _ (List.mem_append.mpr (Or.inl h1))
    · rcases List.mem_cons.mp h1 with rfl | h2
      · have := hP (h, .inl (cQ, n, .inr (.inr (.inr (.inr f))))) (List.mem_append.mpr (Or.inr List.mem_cons_self))
        show H[h]? = some (vp_cell cQ (n, .inr (.inr (.inr (.inr g)))))
        rw [show vp_cell cQ (n, .inr (.inr (.inr (.inr g)))) = vp_cell cQ (n, .inr (.inr (.inr (.inr f)))) from ?_]
        · exact this
        · rw [vp_cell_q, vp_cell_q]
          unfold arrV
          congr 2
          funext j
          exact congrArg va_rf (hfg j.1 j.2).symm
      · exact hP _ (List.mem_append.mpr (Or.inr (List.mem_cons_of_mem _ h2)))
  · have h1 := mm_Dnd.mp hw.2.1
    refine mm_Dnd.mpr ⟨?_, fun q hq => ?_⟩
    · have := h1.1
      simp only [List.map_append, List.map_cons] at this ⊢
      exact this
    · rcases List.mem_append.mp hq with h2 | h2
      · exact h1.2 q (List.mem_append.mpr (Or.inl h2))
      · rcases List.mem_cons.mp h2 with rfl | h3
        · exact h1.2 (h, .inl (cQ, n, .inr (.inr (.inr (.inr f))))) (List.mem_append.mpr (Or.inr List.mem_cons_self))
        · exact h1.2 q (List.mem_append.mpr (Or.inr (List.mem_cons_of_mem _ h3)))
theorem ks_arr {s : State} {args : Array Value} {ty : FieldType} (h : (Cond.arrayClass ty).before args s = true) : ∃ cA : ClassId, ArrOfT s cA ty ∧ s.vm.findClass ("[" ++ ty.toString) = some cA := by
  obtain ⟨c, k, comp, h1, h2, h3⟩ := Cond.arrayClass_spec h
  exact ⟨c, fun n z => ⟨fun k h => (by cases h), k, h2, comp, h3⟩, h1⟩
theorem ks_over {s : State} {args : Array Value} {C : String} (h : (Cond.arrayOver (.object C)).before args s = true) : ∃ cA : ClassId, ArrOfT s cA (.object C) ∧ va_RA s cA (.object C) := by
  obtain ⟨comp, c, k, h1, h2, h3, h4, h5⟩ := Cond.arrayOver_spec h
  exact ⟨c, fun n z => ⟨fun k h => (by cases h), k, h3, comp, h4⟩, k, comp, h3, h4, h1, h5⟩
set_option maxRecDepth 100000 in
theorem K_start {s : State} {args : Array Value} (hts : ∀ w ∈ lw_tbl, w.before args s = true) : ∃ (dC : Nat → ClassId) (dI : Nat → Nat → Nat) (cC cI cJ cQ : ClassId), va_K (dC, dI) vwC (tyl cC cI cJ cQ) s := by
  have hg : ∀ w ∈ lw_g, w.before args s = true := fun w hw => hts w (List.mem_filter.mp hw).1
  obtain ⟨c0, d0, k0⟩ := u_known (n := 2) hg i_Row (hts _ (by decide +kernel))
  obtain ⟨c1, d1, k1⟩ := u_known (n := 3) hg i_Figures (hts _ (by decide +kernel))
  obtain ⟨c2, d2, k2⟩ := u_known (n := 7) hg i_Directive (hts _ (by decide +kernel))
  obtain ⟨c3, d3, k3⟩ := u_known (n := 4) hg i_Argument (hts _ (by decide +kernel))
  obtain ⟨c4, d4, k4⟩ := u_known (n := 6) hg i_Composer (hts _ (by decide +kernel))
  obtain ⟨c5, d5, k5⟩ := u_known (n := 10) hg i_DP (hts _ (by decide +kernel))
  obtain ⟨c6, d6, k6⟩ := u_known (n := 31) hg i_Mo (hts _ (by decide +kernel))
  obtain ⟨cC, a1, b1⟩ := ks_arr (ty := .char) (hts _ (by decide +kernel))
  obtain ⟨cI, a2, b2⟩ := ks_arr (ty := .int) (hts _ (by decide +kernel))
  obtain ⟨cJ, a3, b3⟩ := ks_arr (ty := .long) (hts _ (by decide +kernel))
  obtain ⟨cQ, a4, b4⟩ := ks_over (hts _ st_ao)
  refine ⟨fun c => [c0, c1, c2, c3, c4, c5, c6].getD c c0, fun c => [d0, d1, d2, d3, d4, d5, d6].getD c d0, cC, cI, cJ, cQ, fun c q hq => ?_, fun k q hk => ?_⟩
  · have hc : c < 7 := (List.getElem?_eq_some_iff.mp hq).1
    rcases (show c = 0 ∨ c = 1 ∨ c = 2 ∨ c = 3 ∨ c = 4 ∨ c = 5 ∨ c = 6 by omega) with rfl | rfl | rfl | rfl | rfl | rfl | rfl <;> cases hq
    · exact k0
    · exact k1
    · exact k2
    · exact k3
    · exact k4
    · exact k5
    · exact k6
  · have hc : k < 4 := (List.getElem?_eq_some_iff.mp hk).1
    rcases (show k = 0 ∨ k = 1 ∨ k = 2 ∨ k = 3 by omega) with rfl | rfl | rfl | rfl <;> cases hk
    · exact ⟨a1, b1⟩
    · exact ⟨a2, b2⟩
    · exact ⟨a3, b3⟩
    · exact ⟨a4, b4⟩
end MMks

