section
variable {p : Program} {l : Launch} {e : Env} {s : State} {m : MethodId} {args : Array Value} {below : List Frame} {meth : Method} {c : Code} {dC : Nat → ClassId} {dI : Nat → Nat → Nat} {cC cI cJ cQ : ClassId} {A : Nat → Prop} {Z : (Nat → Prop) → State → Heap → Prop} {ad adK adV : Nat → Nat}
set_option maxRecDepth 100000 in
theorem q_658 : (.classLink "DirectivePrinter" 59 "java/lang/IllegalArgumentException" : Cond) ∈ lw_g := List.mem_filter.mpr ⟨List.mem_of_getElem? (i := 658) (by decide +kernel), by decide +kernel⟩
set_option maxRecDepth 100000 in
theorem q_67 : (.initialized "java/lang/IllegalArgumentException" : Cond) ∈ lw_g := List.mem_filter.mpr ⟨List.mem_of_getElem? (i := 67) (by decide +kernel), by decide +kernel⟩
set_option maxRecDepth 100000 in
theorem q_751 : (.classLink "DirectivePrinter" 102 "java/lang/IllegalStateException" : Cond) ∈ lw_g := List.mem_filter.mpr ⟨List.mem_of_getElem? (i := 751) (by decide +kernel), by decide +kernel⟩
set_option maxRecDepth 100000 in
theorem q_68 : (.initialized "java/lang/IllegalStateException" : Cond) ∈ lw_g := List.mem_filter.mpr ⟨List.mem_of_getElem? (i := 68) (by decide +kernel), by decide +kernel⟩
set_option maxHeartbeats 4000000 in
theorem c_Row_size_P (l : Launch) {Z : (Nat → Prop) → State → Heap → Prop} {ad adK adV : Nat → Nat} (Zo : mm_Zx Z ad adK adV) (dC : Nat → ClassId) (dI : Nat → Nat → Nat) (cC cI cJ cQ : ClassId) (r_kept_n : Nat) (r_kept : Nat → Int32) (r_length : Int32) (h_r h_r_kept : Nat) (sz : Nat) : Met l y_Row_size w_Row_size r_Row_size (mm_pre (dC, dI) vwC (tyl cC cI cJ cQ) Z [(h_r, .inr (0, [.ref h_r_kept, .int r_length])), (h_r_kept, .inl (cC, r_kept_n, .inl r_kept))] sz [.ref h_r]) (QcRead r_length) 0 0 (fun _ => False) := by
  refine Met.ofW (cc := b_Row_size) (maxL := 1) (ret := (some .int)) (by decide) rfl ?_
  intro p e s m args below meth c s₁ B hml hv
  obtain ⟨rfl, hsz, hP, hK, hD0, hZ⟩ := hv
  have hx := B.exec
  have hb := B.bytes
  have hr := B.returns
  have hts := atoms_spec (ws := w_Row_size) B.pre
  have hown : s.vm.findClass "DirectivePrinter$Row" = some m.cls := findClass_of_methodNamed B.named
  have hlocks := B.notSynchronized
  have hl := lv_entry ([.ref h_r]) (n := 1) (Nat.le_of_ble_eq_true rfl)
  rw [lg_entry_eq]
  generalize (lg_sl ([.ref h_r]) ++ List.replicate (1 - (lg_sl ([.ref h_r])).length) Slot.unset).toArray = ls at hl ⊢
  have hl : lv_has ls 1 [(0, .ref h_r)] := hl
  refine lv_aload_n hx hb d_Row_size_0 rfl (lv_at hl 0 rfl) ?_
  refine va_get (D := (dC, dI)) (ci := 0) (v := .int r_length) (C := "DirectivePrinter$Row") (T := T_Row) (N := 2) hx hb hts (mm_up i_Row) hown hK hP 0 rfl rfl 1 (by decide) (hts _ (List.mem_cons_of_mem _ q_92)) (fun _ h9 => h9) rfl d_Row_size_1 ?_
  exact W.iret hx hb hr (fun t ht hW => ⟨rfl, ht⟩) (fun q h => by cases h) d_Row_size_4 hlocks
/-! DirectivePrinter.write(IJ)I, the throw -/
def f_DP_write_T (n : Int32) : Option Unit := (if n < (1 : Int32) then some () else (if n ≤ (8 : Int32) then none else some ()))
set_option maxHeartbeats 4000000 in
set_option maxRecDepth 100000 in
theorem t_DP_write_T (l : Launch) (hl : l.stackTraces = false) {Z : (Nat → Prop) → State → Heap → Prop} {ad adK adV : Nat → Nat} (Zo : mm_Zx Z ad adK adV) (Zt : ∀ (A : Nat → Prop) (U : State) (H : Heap), Z A U H → zt A U H) (dC : Nat → ClassId) (dI : Nat → Nat → Nat) (cC cI cJ cQ : ClassId) (n : Int32) (cs : Int64) (h_x : Nat) (sz : Nat) (hf : f_DP_write_T n = some ()) : MetFree l y_DP_write (headSpec w_DP_write { frames := 6, cells := 1, slots := 6, locals := 90 }) (mm_pre (dC, dI) vwC (tyl cC cI cJ cQ) Z [] sz [.ref h_x, .int n, .long cs]) (fun _ _ _ _ _ => True) (mm_TE "java/lang/IllegalArgumentException") := by
  refine mm_ofT hl (own := "DirectivePrinter") (cc := b_DP_write) (maxL := 5) (ret := (some .int)) (by decide) rfl rfl ?_
  intro p e s m below meth c hsz C0 hw htr hh
  generalize (va_A [] sz) = A at C0 hw
  have hl := lv_entry ([.ref h_x, .int n, .long cs]) (n := 5) (Nat.le_of_ble_eq_true rfl)
  rw [lg_entry_eq]
  generalize (lg_sl ([.ref h_x, .int n, .long cs]) ++ List.replicate (5 - (lg_sl ([.ref h_x, .int n, .long cs])).length) Slot.unset).toArray = ls at hl ⊢
  have hl : lv_has ls 5 [(0, .ref h_x), (1, .int n), (2, .long cs)] := hl
  obtain ⟨hx, hb, hr, hml, hown, hts, hlocks, hK, hZ, hA⟩ := id C0
  unfold f_DP_write_T at hf
  refine lv_iload_n hx hb d_DP_write_0 rfl (lv_at hl 1 rfl) ?_
  refine lv_iconst (v := (1 : Int32)) hx hb d_DP_write_1 (by decide) ?_
  refine lv_icmp_lt (tgt := 11) hx hb d_DP_write_2 (by decide) (fun hc => ?_) (fun hc => ?_)
  · replace hf := mm_ip hc hf
    exact mm_throw0 hx htr hb (hml.trans hl.1.symm) hlocks hown hh (hts _ (List.mem_cons_of_mem _ q_658)) (hts _ (List.mem_cons_of_mem _ q_67)) (by decide +kernel) (zt_atoms hts (Zt _ _ _ hZ) own63 tW_on) ((Zo.2 _ _ _ hZ).2.2.2.1 9 (by decide)) d_DP_write_11 d_DP_write_14 d_DP_write_15 d_DP_write_17 d_DP_write_20 (Nat.le_of_ble_eq_true rfl) (Nat.le_of_ble_eq_true rfl) (Nat.le_of_ble_eq_true rfl) (Nat.le_of_ble_eq_true rfl) mm_TQ_of
  · replace hf := mm_in hc hf
    refine lv_iload_n hx hb d_DP_write_5 rfl (lv_at hl 1 rfl) ?_
    refine lv_bipush (v := (8 : Int32)) hx hb d_DP_write_6 (by decide) ?_
    refine lv_icmp_le (tgt := 21) hx hb d_DP_write_8 (by decide) (fun hc => ?_) (fun hc => ?_)
    · replace hf := mm_ip hc hf
      cases hf
    · replace hf := mm_in hc hf
      exact mm_throw0 hx htr hb (hml.trans hl.1.symm) hlocks hown hh (hts _ (List.mem_cons_of_mem _ q_658)) (hts _ (List.mem_cons_of_mem _ q_67)) (by decide +kernel) (zt_atoms hts (Zt _ _ _ hZ) own63 tW_on) ((Zo.2 _ _ _ hZ).2.2.2.1 9 (by decide)) d_DP_write_11 d_DP_write_14 d_DP_write_15 d_DP_write_17 d_DP_write_20 (Nat.le_of_ble_eq_true rfl) (Nat.le_of_ble_eq_true rfl) (Nat.le_of_ble_eq_true rfl) (Nat.le_of_ble_eq_true rfl) mm_TQ_of
/-! DirectivePrinter.symbol(I)I, the throw -/
def f_DP_symbol_T (cd : Int32) : Option Unit := (if cd < 0 then some () else (if cd ≤ (255 : Int32) then none else some ()))
set_option maxHeartbeats 4000000 in
set_option maxRecDepth 100000 in
theorem t_DP_symbol_T (l : Launch) (hl : l.stackTraces = false) {Z : (Nat → Prop) → State → Heap → Prop} {ad adK adV : Nat → Nat} (Zo : mm_Zx Z ad adK adV) (Zt : ∀ (A : Nat → Prop) (U : State) (H : Heap), Z A U H → zt A U H) (dC : Nat → ClassId) (dI : Nat → Nat → Nat) (cC cI cJ cQ : ClassId) (cd : Int32) (h_x : Nat) (sz : Nat) (hf : f_DP_symbol_T cd = some ()) : MetFree l y_DP_symbol (headSpec w_DP_symbol { frames := 6, cells := 1, slots := 6, locals := 90 }) (mm_pre (dC, dI) vwC (tyl cC cI cJ cQ) Z [] sz [.ref h_x, .int cd]) (fun _ _ _ _ _ => True) (mm_TE "java/lang/IllegalArgumentException") := by
  refine mm_ofT hl (own := "DirectivePrinter") (cc := b_DP_symbol) (maxL := 2) (ret := (some .int)) (by decide) rfl rfl ?_
  intro p e s m below meth c hsz C0 hw htr hh
  generalize (va_A [] sz) = A at C0 hw
  have hl := lv_entry ([.ref h_x, .int cd]) (n := 2) (Nat.le_of_ble_eq_true rfl)
  rw [lg_entry_eq]
  generalize (lg_sl ([.ref h_x, .int cd]) ++ List.replicate (2 - (lg_sl ([.ref h_x, .int cd])).length) Slot.unset).toArray = ls at hl ⊢
  have hl : lv_has ls 2 [(0, .ref h_x), (1, .int cd)] := hl
  obtain ⟨hx, hb, hr, hml, hown, hts, hlocks, hK, hZ, hA⟩ := id C0
  unfold f_DP_symbol_T at hf
  refine lv_iload_n hx hb d_DP_symbol_0 rfl (lv_at hl 1 rfl) ?_
  refine lv_if_lt (tgt := 11) hx hb d_DP_symbol_1 (by decide) (fun hc => ?_) (fun hc => ?_)
  · replace hf := mm_ip hc hf
    exact mm_throw0 hx htr hb (hml.trans hl.1.symm) hlocks hown hh (hts _ (List.mem_cons_of_mem _ q_658)) (hts _ (List.mem_cons_of_mem _ q_67)) (by decide +kernel) (zt_atoms hts (Zt _ _ _ hZ) own63 tW_on) ((Zo.2 _ _ _ hZ).2.2.2.1 10 (by decide)) d_DP_symbol_11 d_DP_symbol_14 d_DP_symbol_15 d_DP_symbol_17 d_DP_symbol_20 (Nat.le_of_ble_eq_true rfl) (Nat.le_of_ble_eq_true rfl) (Nat.le_of_ble_eq_true rfl) (Nat.le_of_ble_eq_true rfl) mm_TQ_of
  · replace hf := mm_in hc hf
    refine lv_iload_n hx hb d_DP_symbol_4 rfl (lv_at hl 1 rfl) ?_
    refine lv_sipush (v := (255 : Int32)) hx hb d_DP_symbol_5 (by decide) ?_
    refine lv_icmp_le (tgt := 21) hx hb d_DP_symbol_8 (by decide) (fun hc => ?_) (fun hc => ?_)
    · replace hf := mm_ip hc hf
      cases hf
    · replace hf := mm_in hc hf
      exact mm_throw0 hx htr hb (hml.trans hl.1.symm) hlocks hown hh (hts _ (List.mem_cons_of_mem _ q_658)) (hts _ (List.mem_cons_of_mem _ q_67)) (by decide +kernel) (zt_atoms hts (Zt _ _ _ hZ) own63 tW_on) ((Zo.2 _ _ _ hZ).2.2.2.1 10 (by decide)) d_DP_symbol_11 d_DP_symbol_14 d_DP_symbol_15 d_DP_symbol_17 d_DP_symbol_20 (Nat.le_of_ble_eq_true rfl) (Nat.le_of_ble_eq_true rfl) (Nat.le_of_ble_eq_true rfl) (Nat.le_of_ble_eq_true rfl) mm_TQ_of
/-! DirectivePrinter.whole(IJ)I, the throw -/
def f_DP_whole_T (bits : Int32) : Option Unit := (if bits = (8 : Int32) then none else (if bits = (16 : Int32) then none else (if bits = (32 : Int32) then none else (if bits = (64 : Int32) then none else some ()))))
set_option maxHeartbeats 4000000 in
set_option maxRecDepth 100000 in
theorem t_DP_whole_T (l : Launch) (hl : l.stackTraces = false) {Z : (Nat → Prop) → State → Heap → Prop} {ad adK adV : Nat → Nat} (Zo : mm_Zx Z ad adK adV) (Zt : ∀ (A : Nat → Prop) (U : State) (H : Heap), Z A U H → zt A U H) (dC : Nat → ClassId) (dI : Nat → Nat → Nat) (cC cI cJ cQ : ClassId) (bits : Int32) (va : Int64) (h_x : Nat) (sz : Nat) (hf : f_DP_whole_T bits = some ()) : MetFree l y_DP_whole (headSpec w_DP_whole { frames := 6, cells := 1, slots := 6, locals := 90 }) (mm_pre (dC, dI) vwC (tyl cC cI cJ cQ) Z [] sz [.ref h_x, .int bits, .long va]) (fun _ _ _ _ _ => True) (mm_TE "java/lang/IllegalArgumentException") := by
  refine mm_ofT hl (own := "DirectivePrinter") (cc := b_DP_whole) (maxL := 5) (ret := (some .int)) (by decide) rfl rfl ?_
  intro p e s m below meth c hsz C0 hw htr hh
  generalize (va_A [] sz) = A at C0 hw
  have hl := lv_entry ([.ref h_x, .int bits, .long va]) (n := 5) (Nat.le_of_ble_eq_true rfl)
  rw [lg_entry_eq]
  generalize (lg_sl ([.ref h_x, .int bits, .long va]) ++ List.replicate (5 - (lg_sl ([.ref h_x, .int bits, .long va])).length) Slot.unset).toArray = ls at hl ⊢
  have hl : lv_has ls 5 [(0, .ref h_x), (1, .int bits), (2, .long va)] := hl
  obtain ⟨hx, hb, hr, hml, hown, hts, hlocks, hK, hZ, hA⟩ := id C0
  unfold f_DP_whole_T at hf
  refine lv_iload_n hx hb d_DP_whole_0 rfl (lv_at hl 1 rfl) ?_
  refine lv_bipush (v := (8 : Int32)) hx hb d_DP_whole_1 (by decide) ?_
  refine lv_icmp_eq (tgt := 34) hx hb d_DP_whole_3 (by decide) (fun hc => ?_) (fun hc => ?_)
  · replace hf := mm_ip hc hf
    cases hf
  · replace hf := mm_in hc hf
    refine lv_iload_n hx hb d_DP_whole_6 rfl (lv_at hl 1 rfl) ?_
    refine lv_bipush (v := (16 : Int32)) hx hb d_DP_whole_7 (by decide) ?_
    refine lv_icmp_eq (tgt := 34) hx hb d_DP_whole_9 (by decide) (fun hc => ?_) (fun hc => ?_)
    · replace hf := mm_ip hc hf
      cases hf
    · replace hf := mm_in hc hf
      refine lv_iload_n hx hb d_DP_whole_12 rfl (lv_at hl 1 rfl) ?_
      refine lv_bipush (v := (32 : Int32)) hx hb d_DP_whole_13 (by decide) ?_
      refine lv_icmp_eq (tgt := 34) hx hb d_DP_whole_15 (by decide) (fun hc => ?_) (fun hc => ?_)
      · replace hf := mm_ip hc hf
        cases hf
      · replace hf := mm_in hc hf
        refine lv_iload_n hx hb d_DP_whole_18 rfl (lv_at hl 1 rfl) ?_
        refine lv_bipush (v := (64 : Int32)) hx hb d_DP_whole_19 (by decide) ?_
        refine lv_icmp_eq (tgt := 34) hx hb d_DP_whole_21 (by decide) (fun hc => ?_) (fun hc => ?_)
        · replace hf := mm_ip hc hf
          cases hf
        · replace hf := mm_in hc hf
          exact mm_throw0 hx htr hb (hml.trans hl.1.symm) hlocks hown hh (hts _ (List.mem_cons_of_mem _ q_658)) (hts _ (List.mem_cons_of_mem _ q_67)) (by decide +kernel) (zt_atoms hts (Zt _ _ _ hZ) own63 tW_on) ((Zo.2 _ _ _ hZ).2.2.2.1 11 (by decide)) d_DP_whole_24 d_DP_whole_27 d_DP_whole_28 d_DP_whole_30 d_DP_whole_33 (Nat.le_of_ble_eq_true rfl) (Nat.le_of_ble_eq_true rfl) (Nat.le_of_ble_eq_true rfl) (Nat.le_of_ble_eq_true rfl) mm_TQ_of
/-! DirectivePrinter.decimal(JI)I, the throw -/
def f_DP_decimal_T (sc : Int32) : Option Unit := (if sc < 0 then some () else (if sc ≤ (40 : Int32) then none else some ()))
set_option maxHeartbeats 4000000 in
set_option maxRecDepth 100000 in
theorem t_DP_decimal_T (l : Launch) (hl : l.stackTraces = false) {Z : (Nat → Prop) → State → Heap → Prop} {ad adK adV : Nat → Nat} (Zo : mm_Zx Z ad adK adV) (Zt : ∀ (A : Nat → Prop) (U : State) (H : Heap), Z A U H → zt A U H) (dC : Nat → ClassId) (dI : Nat → Nat → Nat) (cC cI cJ cQ : ClassId) (us : Int64) (sc : Int32) (h_x : Nat) (sz : Nat) (hf : f_DP_decimal_T sc = some ()) : MetFree l y_DP_decimal (headSpec w_DP_decimal { frames := 6, cells := 1, slots := 6, locals := 90 }) (mm_pre (dC, dI) vwC (tyl cC cI cJ cQ) Z [] sz [.ref h_x, .long us, .int sc]) (fun _ _ _ _ _ => True) (mm_TE "java/lang/IllegalArgumentException") := by
  refine mm_ofT hl (own := "DirectivePrinter") (cc := b_DP_decimal) (maxL := 4) (ret := (some .int)) (by decide) rfl rfl ?_
  intro p e s m below meth c hsz C0 hw htr hh
  generalize (va_A [] sz) = A at C0 hw
  have hl := lv_entry ([.ref h_x, .long us, .int sc]) (n := 4) (Nat.le_of_ble_eq_true rfl)
  rw [lg_entry_eq]
  generalize (lg_sl ([.ref h_x, .long us, .int sc]) ++ List.replicate (4 - (lg_sl ([.ref h_x, .long us, .int sc])).length) Slot.unset).toArray = ls at hl ⊢
  have hl : lv_has ls 4 [(0, .ref h_x), (1, .long us), (3, .int sc)] := hl
  obtain ⟨hx, hb, hr, hml, hown, hts, hlocks, hK, hZ, hA⟩ := id C0
  unfold f_DP_decimal_T at hf
  refine lv_iload_n hx hb d_DP_decimal_0 rfl (lv_at hl 2 rfl) ?_
  refine lv_if_lt (tgt := 10) hx hb d_DP_decimal_1 (by decide) (fun hc => ?_) (fun hc => ?_)
  · replace hf := mm_ip hc hf
    exact mm_throw0 hx htr hb (hml.trans hl.1.symm) hlocks hown hh (hts _ (List.mem_cons_of_mem _ q_658)) (hts _ (List.mem_cons_of_mem _ q_67)) (by decide +kernel) (zt_atoms hts (Zt _ _ _ hZ) own63 tW_on) ((Zo.2 _ _ _ hZ).2.2.2.1 13 (by decide)) d_DP_decimal_10 d_DP_decimal_13 d_DP_decimal_14 d_DP_decimal_16 d_DP_decimal_19 (Nat.le_of_ble_eq_true rfl) (Nat.le_of_ble_eq_true rfl) (Nat.le_of_ble_eq_true rfl) (Nat.le_of_ble_eq_true rfl) mm_TQ_of
  · replace hf := mm_in hc hf
    refine lv_iload_n hx hb d_DP_decimal_4 rfl (lv_at hl 2 rfl) ?_
    refine lv_bipush (v := (40 : Int32)) hx hb d_DP_decimal_5 (by decide) ?_
    refine lv_icmp_le (tgt := 20) hx hb d_DP_decimal_7 (by decide) (fun hc => ?_) (fun hc => ?_)
    · replace hf := mm_ip hc hf
      cases hf
    · replace hf := mm_in hc hf
      exact mm_throw0 hx htr hb (hml.trans hl.1.symm) hlocks hown hh (hts _ (List.mem_cons_of_mem _ q_658)) (hts _ (List.mem_cons_of_mem _ q_67)) (by decide +kernel) (zt_atoms hts (Zt _ _ _ hZ) own63 tW_on) ((Zo.2 _ _ _ hZ).2.2.2.1 13 (by decide)) d_DP_decimal_10 d_DP_decimal_13 d_DP_decimal_14 d_DP_decimal_16 d_DP_decimal_19 (Nat.le_of_ble_eq_true rfl) (Nat.le_of_ble_eq_true rfl) (Nat.le_of_ble_eq_true rfl) (Nat.le_of_ble_eq_true rfl) mm_TQ_of
/-! DirectivePrinter.text()I, the throw -/
def f_DP_text_T (x_format_length : Int32) : Option Unit := (if x_format_length ≤ (64 : Int32) then none else some ())
set_option maxHeartbeats 4000000 in
set_option maxRecDepth 100000 in
theorem t_DP_text_T (l : Launch) (hl : l.stackTraces = false) {Z : (Nat → Prop) → State → Heap → Prop} {ad adK adV : Nat → Nat} (Zo : mm_Zx Z ad adK adV) (Zt : ∀ (A : Nat → Prop) (U : State) (H : Heap), Z A U H → zt A U H) (dC : Nat → ClassId) (dI : Nat → Nat → Nat) (cC cI cJ cQ : ClassId) (x_format_kept_n : Nat) (x_format_kept : Nat → Int32) (x_format_length : Int32) (x_argumentCount : Int32) (x_lastFault : Int32) (x_lastPlace : Int32) (x_unnumbered : Int32) (x_previousArgument : Int32) (h_x h_x_format h_x_format_kept h_x_paper h_x_arguments h_x_directive h_x_composer : Nat) (sz : Nat) (hf : f_DP_text_T x_format_length = some ()) : MetFree l y_DP_text (headSpec w_DP_text { frames := 6, cells := 1, slots := 6, locals := 90 }) (mm_pre (dC, dI) vwC (tyl cC cI cJ cQ) Z [(h_x, .inr (5, [.ref h_x_format, .ref h_x_paper, .ref h_x_arguments, .ref h_x_directive, .ref h_x_composer, .int x_argumentCount, .int x_lastFault, .int x_lastPlace, .int x_unnumbered, .int x_previousArgument])), (h_x_format, .inr (0, [.ref h_x_format_kept, .int x_format_length])), (h_x_format_kept, .inl (cC, x_format_kept_n, .inl x_format_kept))] sz [.ref h_x]) (fun _ _ _ _ _ => True) (mm_TE "java/lang/IllegalStateException") := by
  refine mm_ofT hl (own := "DirectivePrinter") (cc := b_DP_text) (maxL := 3) (ret := (some .int)) (by decide) rfl rfl ?_
  intro p e s m below meth c hsz C0 hw htr hh
  generalize (va_A [(h_x, .inr (5, [.ref h_x_format, .ref h_x_paper, .ref h_x_arguments, .ref h_x_directive, .ref h_x_composer, .int x_argumentCount, .int x_lastFault, .int x_lastPlace, .int x_unnumbered, .int x_previousArgument])), (h_x_format, .inr (0, [.ref h_x_format_kept, .int x_format_length])), (h_x_format_kept, .inl (cC, x_format_kept_n, .inl x_format_kept))] sz) = A at C0 hw
  have hl := lv_entry ([.ref h_x]) (n := 3) (Nat.le_of_ble_eq_true rfl)
  rw [lg_entry_eq]
  generalize (lg_sl ([.ref h_x]) ++ List.replicate (3 - (lg_sl ([.ref h_x])).length) Slot.unset).toArray = ls at hl ⊢
  have hl : lv_has ls 3 [(0, .ref h_x)] := hl
  obtain ⟨hx, hb, hr, hml, hown, hts, hlocks, hK, hZ, hA⟩ := id C0
  unfold f_DP_text_T at hf
  refine lv_aload_n hx hb d_DP_text_0 rfl (lv_at hl 0 rfl) ?_
  refine va_get (D := (dC, dI)) (ci := 5) (v := .ref h_x_format) (C := "DirectivePrinter") (T := T_DP) (N := 10) hx hb hts (mm_up i_DP) hown hK hw.1 0 rfl rfl 0 (by decide) (hts _ (List.mem_cons_of_mem _ q_207)) (fun _ h9 => h9) rfl d_DP_text_1 ?_
  refine W.callR (W.runV (As := []) (rest := []) ⟨hx, hb, hml, hown, hts⟩ (c_Row_size_P l Zo dC dI cC cI cJ cQ x_format_kept_n x_format_kept x_format_length h_x_format h_x_format_kept s.heap.size) (cwV 0 hts (mm_gV q_242 q_243 q_244 q_55 q_245) rfl rfl rfl (by decide +kernel) ⟨Nat.le_of_ble_eq_true rfl, Nat.le_of_ble_eq_true rfl⟩) (mm_pv Zo.1 hK hw hZ hA [1, 2] (by decide) rfl rfl (ci := 0) (q0 := 0) rfl rfl) rfl rfl hl.1 rfl (lv_room (Nat.le_of_ble_eq_true rfl)) d_DP_text_4 ⟨Nat.zero_le _, Nat.zero_le _⟩) ?_
  refine W.eq (g2 := F0 m 7 ls [.int x_format_length]) rfl ?_
  refine lv_bipush (v := (64 : Int32)) hx hb d_DP_text_7 (by decide) ?_
  refine lv_icmp_le (tgt := 22) hx hb d_DP_text_9 (by decide) (fun hc => ?_) (fun hc => ?_)
  · replace hf := mm_ip hc hf
    cases hf
  · replace hf := mm_in hc hf
    exact mm_throw0 hx htr hb (hml.trans hl.1.symm) hlocks hown hh (hts _ (List.mem_cons_of_mem _ q_751)) (hts _ (List.mem_cons_of_mem _ q_68)) (by decide +kernel) (zt_atoms hts (Zt _ _ _ hZ) own106 tW_on) ((Zo.2 _ _ _ hZ).2.2.2.1 12 (by decide)) d_DP_text_12 d_DP_text_15 d_DP_text_16 d_DP_text_18 d_DP_text_21 (Nat.le_of_ble_eq_true rfl) (Nat.le_of_ble_eq_true rfl) (Nat.le_of_ble_eq_true rfl) (Nat.le_of_ble_eq_true rfl) mm_TQ_of
end
