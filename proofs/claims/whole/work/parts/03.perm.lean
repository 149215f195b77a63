/-! the cells of a world in another order; one of many like objects brought to the front -/
section MMperm
theorem mm_off {x K : Int32} {a o d off : Int} {r : List (Int × Int)} (hne : ¬ x = K) (hk : K.toInt = a) (h : Op.lookupswitch.offset r d x.toInt = off) : Op.lookupswitch.offset ((a, o) :: r) d x.toInt = off := by
  rw [Op.lookupswitch.offset_cons, if_neg (fun q => hne (Int32.toInt_inj.mp (by rw [hk]; exact q.symm)))]
  exact h
theorem mm_Dnd {A : Nat → Prop} {ws : va_W} : va_D A ws ↔ (ws.map (fun q => q.1)).Nodup ∧ ∀ q ∈ ws, A q.1 := by
  constructor
  · intro h
    refine ⟨?_, fun q hq => ?_⟩
    · rw [List.nodup_iff_pairwise_ne, List.pairwise_iff_getElem]
      intro i j hi hj hij e
      rw [List.length_map] at hi hj
      rw [List.getElem_map, List.getElem_map] at e
      have := h.1 i j _ _ (List.getElem?_eq_getElem hi) (List.getElem?_eq_getElem hj) e
      omega
    · obtain ⟨i, hi⟩ := List.getElem?_of_mem hq
      exact h.2 i q hi
  · rintro ⟨h1, h2⟩
    refine ⟨fun i j p q hp hq e => ?_, fun k q hk => h2 q (List.mem_of_getElem? hk)⟩
    have hi : i < (ws.map (fun q => q.1)).length := by rw [List.length_map]; exact (List.getElem?_eq_some_iff.mp hp).1
    refine (List.getElem?_inj hi h1).mp ?_
    rw [List.getElem?_map, List.getElem?_map, hp, hq, Option.map_some, Option.map_some, e]
theorem mm_wperm {D : va_G} {cl : List vw_C} {A : Nat → Prop} {s : State} {ws ws' : va_W} {H : Heap} {locs : List Loc} (hp : ws.Perm ws') (h : mm_w D cl A s ws H locs) : mm_w D cl A s ws' H locs := by
  refine ⟨fun k q hk => ?_, ?_, h.2.2⟩
  · obtain ⟨i, hi⟩ := List.getElem?_of_mem (hp.mem_iff.mpr (List.mem_of_getElem? hk))
    exact h.1 i q hi
  · have h1 := mm_Dnd.mp h.2.1
    exact mm_Dnd.mpr ⟨(hp.map _).nodup_iff.mp h1.1, fun q hq => h1.2 q (hp.mem_iff.mpr hq)⟩
end MMperm

