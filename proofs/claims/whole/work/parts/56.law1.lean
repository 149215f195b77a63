section
variable {p : Program} {l : Launch} {e : Env} {s : State} {m : MethodId} {args : Array Value} {below : List Frame} {meth : Method} {c : Code} {dC : Nat → ClassId} {dI : Nat → Nat → Nat} {cC cI cJ cQ : ClassId} {A : Nat → Prop} {Z : (Nat → Prop) → State → Heap → Prop} {ad adK adV : Nat → Nat}
abbrev b_La_write : ByteArray := method_3_code
abbrev y_La_write : MethodName := ⟨"DirectivePrinterLaw", "write", "(LDirectivePrinter;IJ[J)I"⟩
def w_La_write : List Cond := .codeWith y_La_write b_La_write 6 (some .int) [(0, 11, 14, 13)] :: lw_g
theorem d_La_write_0 : decode b_La_write 0 = .ok (.aload 4, 2) := by decide +kernel
theorem d_La_write_2 : decode b_La_write 2 = .ok (.iconst 0, 1) := by decide +kernel
theorem d_La_write_3 : decode b_La_write 3 = .ok (.aload_n 0, 1) := by decide +kernel
theorem d_La_write_4 : decode b_La_write 4 = .ok (.iload_n 1, 1) := by decide +kernel
theorem d_La_write_5 : decode b_La_write 5 = .ok (.lload_n 2, 1) := by decide +kernel
theorem d_La_write_6 : decode b_La_write 6 = .ok (.invokevirtual 7, 3) := by decide +kernel
theorem d_La_write_9 : decode b_La_write 9 = .ok (.i2l, 1) := by decide +kernel
theorem d_La_write_10 : decode b_La_write 10 = .ok (.lastore, 1) := by decide +kernel
theorem d_La_write_11 : decode b_La_write 11 = .ok (.goto 7, 3) := by decide +kernel
theorem d_La_write_14 : decode b_La_write 14 = .ok (.astore 5, 2) := by decide +kernel
theorem d_La_write_16 : decode b_La_write 16 = .ok (.iconst 1, 1) := by decide +kernel
theorem d_La_write_17 : decode b_La_write 17 = .ok (.ireturn, 1) := by decide +kernel
theorem d_La_write_18 : decode b_La_write 18 = .ok (.iconst 0, 1) := by decide +kernel
theorem d_La_write_19 : decode b_La_write 19 = .ok (.ireturn, 1) := by decide +kernel
abbrev b_La_symbol : ByteArray := method_4_code
abbrev y_La_symbol : MethodName := ⟨"DirectivePrinterLaw", "symbol", "(LDirectivePrinter;I[J)I"⟩
def w_La_symbol : List Cond := .codeWith y_La_symbol b_La_symbol 4 (some .int) [(0, 9, 12, 13)] :: lw_g
theorem d_La_symbol_0 : decode b_La_symbol 0 = .ok (.aload_n 2, 1) := by decide +kernel
theorem d_La_symbol_1 : decode b_La_symbol 1 = .ok (.iconst 0, 1) := by decide +kernel
theorem d_La_symbol_2 : decode b_La_symbol 2 = .ok (.aload_n 0, 1) := by decide +kernel
theorem d_La_symbol_3 : decode b_La_symbol 3 = .ok (.iload_n 1, 1) := by decide +kernel
theorem d_La_symbol_4 : decode b_La_symbol 4 = .ok (.invokevirtual 15, 3) := by decide +kernel
theorem d_La_symbol_7 : decode b_La_symbol 7 = .ok (.i2l, 1) := by decide +kernel
theorem d_La_symbol_8 : decode b_La_symbol 8 = .ok (.lastore, 1) := by decide +kernel
theorem d_La_symbol_9 : decode b_La_symbol 9 = .ok (.goto 6, 3) := by decide +kernel
theorem d_La_symbol_12 : decode b_La_symbol 12 = .ok (.astore_n 3, 1) := by decide +kernel
theorem d_La_symbol_13 : decode b_La_symbol 13 = .ok (.iconst 1, 1) := by decide +kernel
theorem d_La_symbol_14 : decode b_La_symbol 14 = .ok (.ireturn, 1) := by decide +kernel
theorem d_La_symbol_15 : decode b_La_symbol 15 = .ok (.iconst 0, 1) := by decide +kernel
theorem d_La_symbol_16 : decode b_La_symbol 16 = .ok (.ireturn, 1) := by decide +kernel
abbrev b_La_whole : ByteArray := method_5_code
abbrev y_La_whole : MethodName := ⟨"DirectivePrinterLaw", "whole", "(LDirectivePrinter;IJ[J)I"⟩
def w_La_whole : List Cond := .codeWith y_La_whole b_La_whole 6 (some .int) [(0, 11, 14, 13)] :: lw_g
theorem d_La_whole_0 : decode b_La_whole 0 = .ok (.aload 4, 2) := by decide +kernel
theorem d_La_whole_2 : decode b_La_whole 2 = .ok (.iconst 0, 1) := by decide +kernel
theorem d_La_whole_3 : decode b_La_whole 3 = .ok (.aload_n 0, 1) := by decide +kernel
theorem d_La_whole_4 : decode b_La_whole 4 = .ok (.iload_n 1, 1) := by decide +kernel
theorem d_La_whole_5 : decode b_La_whole 5 = .ok (.lload_n 2, 1) := by decide +kernel
theorem d_La_whole_6 : decode b_La_whole 6 = .ok (.invokevirtual 19, 3) := by decide +kernel
theorem d_La_whole_9 : decode b_La_whole 9 = .ok (.i2l, 1) := by decide +kernel
theorem d_La_whole_10 : decode b_La_whole 10 = .ok (.lastore, 1) := by decide +kernel
theorem d_La_whole_11 : decode b_La_whole 11 = .ok (.goto 7, 3) := by decide +kernel
theorem d_La_whole_14 : decode b_La_whole 14 = .ok (.astore 5, 2) := by decide +kernel
theorem d_La_whole_16 : decode b_La_whole 16 = .ok (.iconst 1, 1) := by decide +kernel
theorem d_La_whole_17 : decode b_La_whole 17 = .ok (.ireturn, 1) := by decide +kernel
theorem d_La_whole_18 : decode b_La_whole 18 = .ok (.iconst 0, 1) := by decide +kernel
theorem d_La_whole_19 : decode b_La_whole 19 = .ok (.ireturn, 1) := by decide +kernel
abbrev b_La_text : ByteArray := method_6_code
abbrev y_La_text : MethodName := ⟨"DirectivePrinterLaw", "text", "(LDirectivePrinter;[J)I"⟩
def w_La_text : List Cond := .codeWith y_La_text b_La_text 3 (some .int) [(0, 8, 11, 26)] :: lw_g
theorem d_La_text_0 : decode b_La_text 0 = .ok (.aload_n 1, 1) := by decide +kernel
theorem d_La_text_1 : decode b_La_text 1 = .ok (.iconst 0, 1) := by decide +kernel
theorem d_La_text_2 : decode b_La_text 2 = .ok (.aload_n 0, 1) := by decide +kernel
theorem d_La_text_3 : decode b_La_text 3 = .ok (.invokevirtual 22, 3) := by decide +kernel
theorem d_La_text_6 : decode b_La_text 6 = .ok (.i2l, 1) := by decide +kernel
theorem d_La_text_7 : decode b_La_text 7 = .ok (.lastore, 1) := by decide +kernel
theorem d_La_text_8 : decode b_La_text 8 = .ok (.goto 6, 3) := by decide +kernel
theorem d_La_text_11 : decode b_La_text 11 = .ok (.astore_n 2, 1) := by decide +kernel
theorem d_La_text_12 : decode b_La_text 12 = .ok (.iconst 1, 1) := by decide +kernel
theorem d_La_text_13 : decode b_La_text 13 = .ok (.ireturn, 1) := by decide +kernel
theorem d_La_text_14 : decode b_La_text 14 = .ok (.iconst 0, 1) := by decide +kernel
theorem d_La_text_15 : decode b_La_text 15 = .ok (.ireturn, 1) := by decide +kernel
abbrev b_La_decimal : ByteArray := method_7_code
abbrev y_La_decimal : MethodName := ⟨"DirectivePrinterLaw", "decimal", "(LDirectivePrinter;JI[J)I"⟩
def w_La_decimal : List Cond := .codeWith y_La_decimal b_La_decimal 6 (some .int) [(0, 11, 14, 13)] :: lw_g
theorem d_La_decimal_0 : decode b_La_decimal 0 = .ok (.aload 4, 2) := by decide +kernel
theorem d_La_decimal_2 : decode b_La_decimal 2 = .ok (.iconst 0, 1) := by decide +kernel
theorem d_La_decimal_3 : decode b_La_decimal 3 = .ok (.aload_n 0, 1) := by decide +kernel
theorem d_La_decimal_4 : decode b_La_decimal 4 = .ok (.lload_n 1, 1) := by decide +kernel
theorem d_La_decimal_5 : decode b_La_decimal 5 = .ok (.iload_n 3, 1) := by decide +kernel
theorem d_La_decimal_6 : decode b_La_decimal 6 = .ok (.invokevirtual 28, 3) := by decide +kernel
theorem d_La_decimal_9 : decode b_La_decimal 9 = .ok (.i2l, 1) := by decide +kernel
theorem d_La_decimal_10 : decode b_La_decimal 10 = .ok (.lastore, 1) := by decide +kernel
theorem d_La_decimal_11 : decode b_La_decimal 11 = .ok (.goto 7, 3) := by decide +kernel
theorem d_La_decimal_14 : decode b_La_decimal 14 = .ok (.astore 5, 2) := by decide +kernel
theorem d_La_decimal_16 : decode b_La_decimal 16 = .ok (.iconst 1, 1) := by decide +kernel
theorem d_La_decimal_17 : decode b_La_decimal 17 = .ok (.ireturn, 1) := by decide +kernel
theorem d_La_decimal_18 : decode b_La_decimal 18 = .ok (.iconst 0, 1) := by decide +kernel
theorem d_La_decimal_19 : decode b_La_decimal 19 = .ok (.ireturn, 1) := by decide +kernel
set_option maxRecDepth 100000 in
theorem q_654 : (.methodLink "DirectivePrinterLaw" 7 ⟨"DirectivePrinter", "write", "(IJ)I"⟩ : Cond) ∈ lw_g := List.mem_filter.mpr ⟨List.mem_of_getElem? (i := 654) (by decide +kernel), by decide +kernel⟩
set_option maxRecDepth 100000 in
theorem q_655 : (.instanceMethod ⟨"DirectivePrinter", "write", "(IJ)I"⟩ : Cond) ∈ lw_g := List.mem_filter.mpr ⟨List.mem_of_getElem? (i := 655) (by decide +kernel), by decide +kernel⟩
set_option maxRecDepth 100000 in
theorem q_656 : (.selects "DirectivePrinter" ⟨"DirectivePrinter", "write", "(IJ)I"⟩ ⟨"DirectivePrinter", "write", "(IJ)I"⟩ : Cond) ∈ lw_g := List.mem_filter.mpr ⟨List.mem_of_getElem? (i := 656) (by decide +kernel), by decide +kernel⟩
set_option maxRecDepth 100000 in
theorem q_657 : (.code ⟨"DirectivePrinter", "write", "(IJ)I"⟩ prog_1_method_2_code 5 (Option.some FieldType.int) : Cond) ∈ lw_g := List.mem_filter.mpr ⟨List.mem_of_getElem? (i := 657) (rfl), by decide +kernel⟩
set_option maxRecDepth 100000 in
theorem q_653 : (.classLink "DirectivePrinterLaw" 13 "java/lang/IllegalArgumentException" : Cond) ∈ lw_g := List.mem_filter.mpr ⟨List.mem_of_getElem? (i := 653) (by decide +kernel), by decide +kernel⟩
set_option maxRecDepth 100000 in
theorem q_728 : (.methodLink "DirectivePrinterLaw" 15 ⟨"DirectivePrinter", "symbol", "(I)I"⟩ : Cond) ∈ lw_g := List.mem_filter.mpr ⟨List.mem_of_getElem? (i := 728) (by decide +kernel), by decide +kernel⟩
set_option maxRecDepth 100000 in
theorem q_729 : (.instanceMethod ⟨"DirectivePrinter", "symbol", "(I)I"⟩ : Cond) ∈ lw_g := List.mem_filter.mpr ⟨List.mem_of_getElem? (i := 729) (by decide +kernel), by decide +kernel⟩
set_option maxRecDepth 100000 in
theorem q_730 : (.selects "DirectivePrinter" ⟨"DirectivePrinter", "symbol", "(I)I"⟩ ⟨"DirectivePrinter", "symbol", "(I)I"⟩ : Cond) ∈ lw_g := List.mem_filter.mpr ⟨List.mem_of_getElem? (i := 730) (by decide +kernel), by decide +kernel⟩
set_option maxRecDepth 100000 in
theorem q_731 : (.code ⟨"DirectivePrinter", "symbol", "(I)I"⟩ prog_1_method_7_code 2 (Option.some FieldType.int) : Cond) ∈ lw_g := List.mem_filter.mpr ⟨List.mem_of_getElem? (i := 731) (rfl), by decide +kernel⟩
set_option maxRecDepth 100000 in
theorem q_737 : (.methodLink "DirectivePrinterLaw" 19 ⟨"DirectivePrinter", "whole", "(IJ)I"⟩ : Cond) ∈ lw_g := List.mem_filter.mpr ⟨List.mem_of_getElem? (i := 737) (by decide +kernel), by decide +kernel⟩
set_option maxRecDepth 100000 in
theorem q_738 : (.instanceMethod ⟨"DirectivePrinter", "whole", "(IJ)I"⟩ : Cond) ∈ lw_g := List.mem_filter.mpr ⟨List.mem_of_getElem? (i := 738) (by decide +kernel), by decide +kernel⟩
set_option maxRecDepth 100000 in
theorem q_739 : (.selects "DirectivePrinter" ⟨"DirectivePrinter", "whole", "(IJ)I"⟩ ⟨"DirectivePrinter", "whole", "(IJ)I"⟩ : Cond) ∈ lw_g := List.mem_filter.mpr ⟨List.mem_of_getElem? (i := 739) (by decide +kernel), by decide +kernel⟩
set_option maxRecDepth 100000 in
theorem q_740 : (.code ⟨"DirectivePrinter", "whole", "(IJ)I"⟩ prog_1_method_8_code 5 (Option.some FieldType.int) : Cond) ∈ lw_g := List.mem_filter.mpr ⟨List.mem_of_getElem? (i := 740) (rfl), by decide +kernel⟩
set_option maxRecDepth 100000 in
theorem q_747 : (.methodLink "DirectivePrinterLaw" 22 ⟨"DirectivePrinter", "text", "()I"⟩ : Cond) ∈ lw_g := List.mem_filter.mpr ⟨List.mem_of_getElem? (i := 747) (by decide +kernel), by decide +kernel⟩
set_option maxRecDepth 100000 in
theorem q_748 : (.instanceMethod ⟨"DirectivePrinter", "text", "()I"⟩ : Cond) ∈ lw_g := List.mem_filter.mpr ⟨List.mem_of_getElem? (i := 748) (by decide +kernel), by decide +kernel⟩
set_option maxRecDepth 100000 in
theorem q_749 : (.selects "DirectivePrinter" ⟨"DirectivePrinter", "text", "()I"⟩ ⟨"DirectivePrinter", "text", "()I"⟩ : Cond) ∈ lw_g := List.mem_filter.mpr ⟨List.mem_of_getElem? (i := 749) (by decide +kernel), by decide +kernel⟩
set_option maxRecDepth 100000 in
theorem q_750 : (.code ⟨"DirectivePrinter", "text", "()I"⟩ prog_1_method_9_code 3 (Option.some FieldType.int) : Cond) ∈ lw_g := List.mem_filter.mpr ⟨List.mem_of_getElem? (i := 750) (rfl), by decide +kernel⟩
set_option maxRecDepth 100000 in
theorem q_746 : (.classLink "DirectivePrinterLaw" 26 "java/lang/IllegalStateException" : Cond) ∈ lw_g := List.mem_filter.mpr ⟨List.mem_of_getElem? (i := 746) (by decide +kernel), by decide +kernel⟩
set_option maxRecDepth 100000 in
theorem q_772 : (.methodLink "DirectivePrinterLaw" 28 ⟨"DirectivePrinter", "decimal", "(JI)I"⟩ : Cond) ∈ lw_g := List.mem_filter.mpr ⟨List.mem_of_getElem? (i := 772) (by decide +kernel), by decide +kernel⟩
set_option maxRecDepth 100000 in
theorem q_773 : (.instanceMethod ⟨"DirectivePrinter", "decimal", "(JI)I"⟩ : Cond) ∈ lw_g := List.mem_filter.mpr ⟨List.mem_of_getElem? (i := 773) (by decide +kernel), by decide +kernel⟩
set_option maxRecDepth 100000 in
theorem q_774 : (.selects "DirectivePrinter" ⟨"DirectivePrinter", "decimal", "(JI)I"⟩ ⟨"DirectivePrinter", "decimal", "(JI)I"⟩ : Cond) ∈ lw_g := List.mem_filter.mpr ⟨List.mem_of_getElem? (i := 774) (by decide +kernel), by decide +kernel⟩
set_option maxRecDepth 100000 in
theorem q_775 : (.code ⟨"DirectivePrinter", "decimal", "(JI)I"⟩ prog_1_method_10_code 4 (Option.some FieldType.int) : Cond) ∈ lw_g := List.mem_filter.mpr ⟨List.mem_of_getElem? (i := 775) (rfl), by decide +kernel⟩
/-! DirectivePrinterLaw.write(LDirectivePrinter;IJ[J)I -/
def f_La_write (N : Nat) (x_format_kept_n : Nat) (x_format_kept : Nat → Int32) (x_format_length : Int32) (n : Int32) (cs : Int64) (out : Nat → Int64) : Option (Int32 × (Nat → Int32) × Int32 × (Nat → Int64)) := mm_t (f_DP_write_T n) (some ((1 : Int32), x_format_kept, x_format_length, out)) (mm_b3 (f_DP_write N x_format_kept_n x_format_kept x_format_length n cs) (fun r_1 o_2 o_3 => (if (0 : Int32) < 0 ∨ (1) ≤ (0 : Int32).toNatClampNeg then none else some ((0 : Int32), o_2, o_3, vp_updL out (0 : Int32).toNatClampNeg r_1.toInt64))))
abbrev r_La_write : Room := { frames := 7, cells := 1, slots := 6, locals := 114 }
set_option maxHeartbeats 4000000 in
set_option maxRecDepth 100000 in
theorem c_La_write (l : Launch) (hst : l.stackTraces = false) {Z : (Nat → Prop) → State → Heap → Prop} {ad adK adV : Nat → Nat} (Zo : mm_Zx Z ad adK adV) (Zt : ∀ (A : Nat → Prop) (U : State) (H : Heap), Z A U H → zt A U H) (dC : Nat → ClassId) (dI : Nat → Nat → Nat) (cC cI cJ cQ : ClassId) (N : Nat) (x_format_kept_n : Nat) (x_format_kept : Nat → Int32) (x_format_length : Int32) (x_argumentCount : Int32) (x_lastFault : Int32) (x_lastPlace : Int32) (x_unnumbered : Int32) (x_previousArgument : Int32) (n : Int32) (cs : Int64) (out : Nat → Int64) (h_x h_x_format h_x_format_kept h_out h_x_paper h_x_arguments h_x_directive h_x_composer : Nat) (sz : Nat) (out0 : Int32 × (Nat → Int32) × Int32 × (Nat → Int64)) (hf : f_La_write N x_format_kept_n x_format_kept x_format_length n cs out = some out0) : Met l y_La_write w_La_write r_La_write (mm_pre (dC, dI) vwC (tyl cC cI cJ cQ) Z [(h_x, .inr (5, [.ref h_x_format, .ref h_x_paper, .ref h_x_arguments, .ref h_x_directive, .ref h_x_composer, .int x_argumentCount, .int x_lastFault, .int x_lastPlace, .int x_unnumbered, .int x_previousArgument])), (h_x_format, .inr (0, [.ref h_x_format_kept, .int x_format_length])), (h_x_format_kept, .inl (cC, x_format_kept_n, .inl x_format_kept)), (h_out, .inl (cJ, 1, .inr (.inl out)))] sz [.ref h_x, .int n, .long cs, .ref h_out]) (mm_qi (dC, dI) vwC (tyl cC cI cJ cQ) (va_A [(h_x, .inr (5, [.ref h_x_format, .ref h_x_paper, .ref h_x_arguments, .ref h_x_directive, .ref h_x_composer, .int x_argumentCount, .int x_lastFault, .int x_lastPlace, .int x_unnumbered, .int x_previousArgument])), (h_x_format, .inr (0, [.ref h_x_format_kept, .int x_format_length])), (h_x_format_kept, .inl (cC, x_format_kept_n, .inl x_format_kept)), (h_out, .inl (cJ, 1, .inr (.inl out)))] sz) [(h_x, .inr (5, [.ref h_x_format, .ref h_x_paper, .ref h_x_arguments, .ref h_x_directive, .ref h_x_composer, .int x_argumentCount, .int x_lastFault, .int x_lastPlace, .int x_unnumbered, .int x_previousArgument])), (h_x_format, .inr (0, [.ref h_x_format_kept, .int out0.2.2.1])), (h_x_format_kept, .inl (cC, x_format_kept_n, .inl out0.2.1)), (h_out, .inl (cJ, 1, .inr (.inl out0.2.2.2)))] out0.1) 1 6 (va_A [(h_x, .inr (5, [.ref h_x_format, .ref h_x_paper, .ref h_x_arguments, .ref h_x_directive, .ref h_x_composer, .int x_argumentCount, .int x_lastFault, .int x_lastPlace, .int x_unnumbered, .int x_previousArgument])), (h_x_format, .inr (0, [.ref h_x_format_kept, .int x_format_length])), (h_x_format_kept, .inl (cC, x_format_kept_n, .inl x_format_kept)), (h_out, .inl (cJ, 1, .inr (.inl out)))] sz) := by
  refine mm_ofC (own := "DirectivePrinterLaw") (cc := b_La_write) (maxL := 6) (ret := (some .int)) (hs := [(0, 11, 14, 13)]) (by decide) rfl rfl ?_
  intro p e s m below meth c hsz C0 hw htab
  generalize (va_A [(h_x, .inr (5, [.ref h_x_format, .ref h_x_paper, .ref h_x_arguments, .ref h_x_directive, .ref h_x_composer, .int x_argumentCount, .int x_lastFault, .int x_lastPlace, .int x_unnumbered, .int x_previousArgument])), (h_x_format, .inr (0, [.ref h_x_format_kept, .int x_format_length])), (h_x_format_kept, .inl (cC, x_format_kept_n, .inl x_format_kept)), (h_out, .inl (cJ, 1, .inr (.inl out)))] sz) = A at C0 hw ⊢
  obtain ⟨xt, htb, tb1, tb2, tb3, tb4⟩ := mm_tab1 htab
  have hl := lv_entry ([.ref h_x, .int n, .long cs, .ref h_out]) (n := 6) (Nat.le_of_ble_eq_true rfl)
  rw [lg_entry_eq]
  generalize (lg_sl ([.ref h_x, .int n, .long cs, .ref h_out]) ++ List.replicate (6 - (lg_sl ([.ref h_x, .int n, .long cs, .ref h_out])).length) Slot.unset).toArray = ls at hl ⊢
  have hl : lv_has ls 6 [(0, .ref h_x), (1, .int n), (2, .long cs), (4, .ref h_out)] := hl
  obtain ⟨hx, hb, hr, hml, hown, hts, hlocks, hK, hZ, hA⟩ := id C0
  generalize s.heap = H at hw ⊢
  unfold f_La_write at hf
  refine lv_aload hx hb d_La_write_0 (lv_at hl 3 rfl) ?_
  refine lv_iconst (v := (0 : Int32)) hx hb d_La_write_2 (by decide) ?_
  refine lv_aload_n hx hb d_La_write_3 rfl (lv_at hl 0 rfl) ?_
  refine lv_iload_n hx hb d_La_write_4 rfl (lv_at hl 1 rfl) ?_
  refine lv_lload_n hx hb d_La_write_5 rfl (lv_at hl 2 rfl) ?_
  rcases hT : f_DP_write_T n with _ | _
  · rw [hT] at hf
    replace hf := mm_tN hf
    obtain ⟨r_1, o_2, o_3, hu, hf⟩ := mm_b3_ok hf
    refine mm_ci (wr := [(h_out, .inl (cJ, 1, .inr (.inl out)))]) (va_runV (As := [.int n, .long cs]) (rest := [.int (0 : Int32), .ref h_out]) ⟨hx, hb, hml, hown, hts⟩ (c_DP_write l Zo dC dI cC cI cJ cQ N x_format_kept_n x_format_kept x_format_length x_argumentCount x_lastFault x_lastPlace x_unnumbered x_previousArgument n cs h_x h_x_format h_x_format_kept h_x_paper h_x_arguments h_x_directive h_x_composer H.size (r_1, o_2, o_3) hu) (cwV 2 hts (mm_gV q_654 q_655 q_656 q_54 q_657) rfl rfl rfl (by decide +kernel) ⟨Nat.le_of_ble_eq_true rfl, Nat.le_of_ble_eq_true rfl⟩) (mm_pv Zo.1 hK hw hZ hA [0, 1, 2] (by decide) rfl rfl (ci := 5) (q0 := 0) rfl rfl) rfl rfl hl.1 rfl (lv_room (Nat.le_of_ble_eq_true rfl)) d_La_write_6 ⟨Nat.zero_le _, Nat.zero_le _⟩) hw hA [0, 1, 2] [3] rfl rfl (by decide) (by decide) (fun H locs hw => ?_)
    have hw : mm_w (dC, dI) vwC A s [(h_out, .inl (cJ, 1, .inr (.inl out))), (h_x, .inr (5, [.ref h_x_format, .ref h_x_paper, .ref h_x_arguments, .ref h_x_directive, .ref h_x_composer, .int x_argumentCount, .int x_lastFault, .int x_lastPlace, .int x_unnumbered, .int x_previousArgument])), (h_x_format, .inr (0, [.ref h_x_format_kept, .int o_3])), (h_x_format_kept, .inl (cC, x_format_kept_n, .inl o_2))] H locs := hw
    refine lv_i2l (v := r_1.toInt64) hx hb d_La_write_9 rfl ?_
    obtain ⟨hz, hf⟩ := mm_grd hf
    refine va_last hx hb hK hw.1 hw.2.1 hw.2.2 0 2 rfl rfl hz d_La_write_10 (fun H locs hP hD hS => ?_)
    have hw : mm_w (dC, dI) vwC A s [(h_out, .inl (cJ, 1, .inr (.inl (vp_updL out (0 : Int32).toNatClampNeg r_1.toInt64)))), (h_x, .inr (5, [.ref h_x_format, .ref h_x_paper, .ref h_x_arguments, .ref h_x_directive, .ref h_x_composer, .int x_argumentCount, .int x_lastFault, .int x_lastPlace, .int x_unnumbered, .int x_previousArgument])), (h_x_format, .inr (0, [.ref h_x_format_kept, .int o_3])), (h_x_format_kept, .inl (cC, x_format_kept_n, .inl o_2))] H locs := ⟨hP, hD, hS⟩
    refine lv_goto (tgt := 18) hx hb d_La_write_11 (by decide) ?_
    refine lv_iconst (v := (0 : Int32)) hx hb d_La_write_18 (by decide) ?_
    refine W.widen (k := 1) (n := 6) (by decide) (by decide) ?_
    obtain rfl := Option.some.inj hf
    exact mm_iret hx hb hr hlocks hK (mm_wsub hw [1, 2, 3, 0] (by decide) rfl rfl) rfl d_La_write_19
  · rw [hT] at hf
    replace hf := mm_tS hf
    refine mm_cthrow (As := [.int n, .long cs]) (rest := [.int (0 : Int32), .ref h_out]) ⟨hx, hb, hml, hown, hts⟩ (t_DP_write_T l hst Zo Zt dC dI cC cI cJ cQ n cs h_x H.size hT) (cwV 2 hts (mm_gV q_654 q_655 q_656 q_54 q_657) rfl rfl rfl (by decide +kernel) ⟨Nat.le_of_ble_eq_true rfl, Nat.le_of_ble_eq_true rfl⟩) (mm_pvR Zo.1 hK hw hZ hA [] (by decide) rfl rfl (va_recv hK hw.1 (ci := 5) (q0 := 0) rfl rfl)) rfl hl.1 rfl (Nat.le_of_ble_eq_true rfl) d_La_write_6 ⟨Nat.le_of_ble_eq_true rfl, Nat.le_of_ble_eq_true rfl⟩ htb (by simp [covers, tb1, tb2]) (by rw [tb4]; decide) (by rw [tb4]; exact hts _ (List.mem_cons_of_mem _ q_653)) (fun ea H1 hz hk => ?_)
    have hw := mm_wkeep hw hz hk
    generalize H1 = H at hw ⊢
    rw [tb3]
    refine lv_astore (lv' := [(5, .ref ea), (0, .ref h_x), (1, .int n), (2, .long cs), (4, .ref h_out)]) hx hb d_La_write_14 hl (by decide) rfl (fun ls hl => ?_)
    refine lv_iconst (v := (1 : Int32)) hx hb d_La_write_16 (by decide) ?_
    refine W.widen (k := 1) (n := 6) (by decide) (by decide) ?_
    obtain rfl := Option.some.inj hf
    exact mm_iret hx hb hr hlocks hK (mm_wsub hw [0, 1, 2, 3] (by decide) rfl rfl) rfl d_La_write_17
/-! DirectivePrinterLaw.symbol(LDirectivePrinter;I[J)I -/
def f_La_symbol (x_argumentCount : Int32) (cd : Int32) (out : Nat → Int64) (x_kind : Nat → Nat) (x_value : Nat → Int64) (x_sz : Nat → Int32) : Option (Int32 × Int32 × (Nat → Int64) × (Nat → Nat) × (Nat → Int64) × (Nat → Int32)) := mm_t (f_DP_symbol_T cd) (some ((1 : Int32), x_argumentCount, out, x_kind, x_value, x_sz)) (mm_b5 (f_DP_symbol x_argumentCount cd x_kind x_value x_sz) (fun r_1 o_2 o_3 o_4 o_5 => (if (0 : Int32) < 0 ∨ (1) ≤ (0 : Int32).toNatClampNeg then none else some ((0 : Int32), o_2, vp_updL out (0 : Int32).toNatClampNeg r_1.toInt64, o_3, o_4, o_5))))
abbrev r_La_symbol : Room := { frames := 7, cells := 1, slots := 6, locals := 111 }
set_option maxHeartbeats 4000000 in
set_option maxRecDepth 100000 in
theorem c_La_symbol (l : Launch) (hst : l.stackTraces = false) {Z : (Nat → Prop) → State → Heap → Prop} {ad adK adV : Nat → Nat} (Zo : mm_Zx Z ad adK adV) (Zt : ∀ (A : Nat → Prop) (U : State) (H : Heap), Z A U H → zt A U H) (dC : Nat → ClassId) (dI : Nat → Nat → Nat) (cC cI cJ cQ : ClassId) (x_argumentCount : Int32) (x_lastFault : Int32) (x_lastPlace : Int32) (x_unnumbered : Int32) (x_previousArgument : Int32) (cd : Int32) (out : Nat → Int64) (x_kind : Nat → Nat) (x_value : Nat → Int64) (x_sz : Nat → Int32) (x_tlen : Nat → Int32) (x_tkept : Nat → Nat → Int32) (h_x h_x_arguments h_out h_x_format h_x_paper h_x_directive h_x_composer : Nat) (pA pR pK : Nat → Nat) (sz : Nat) (out0 : Int32 × Int32 × (Nat → Int64) × (Nat → Nat) × (Nat → Int64) × (Nat → Int32)) (hf : f_La_symbol x_argumentCount cd out x_kind x_value x_sz = some out0) : Met l y_La_symbol w_La_symbol r_La_symbol (mm_pre (dC, dI) vwC (tyl cC cI cJ cQ) Z ([(h_x, .inr (5, [.ref h_x_format, .ref h_x_paper, .ref h_x_arguments, .ref h_x_directive, .ref h_x_composer, .int x_argumentCount, .int x_lastFault, .int x_lastPlace, .int x_unnumbered, .int x_previousArgument])), (h_x_arguments, .inl (cQ, 9, .inr (.inr (.inr (.inr (fun q => some (pA q))))))), (h_out, .inl (cJ, 1, .inr (.inl out)))] ++ apool pA pR pK ad cC x_kind x_value x_sz x_tlen x_tkept) sz [.ref h_x, .int cd, .ref h_out]) (mm_qi (dC, dI) vwC (tyl cC cI cJ cQ) (va_A ([(h_x, .inr (5, [.ref h_x_format, .ref h_x_paper, .ref h_x_arguments, .ref h_x_directive, .ref h_x_composer, .int x_argumentCount, .int x_lastFault, .int x_lastPlace, .int x_unnumbered, .int x_previousArgument])), (h_x_arguments, .inl (cQ, 9, .inr (.inr (.inr (.inr (fun q => some (pA q))))))), (h_out, .inl (cJ, 1, .inr (.inl out)))] ++ apool pA pR pK ad cC x_kind x_value x_sz x_tlen x_tkept) sz) ([(h_x, .inr (5, [.ref h_x_format, .ref h_x_paper, .ref h_x_arguments, .ref h_x_directive, .ref h_x_composer, .int out0.2.1, .int x_lastFault, .int x_lastPlace, .int x_unnumbered, .int x_previousArgument])), (h_x_arguments, .inl (cQ, 9, .inr (.inr (.inr (.inr (fun q => some (pA q))))))), (h_out, .inl (cJ, 1, .inr (.inl out0.2.2.1)))] ++ apool pA pR pK ad cC out0.2.2.2.1 out0.2.2.2.2.1 out0.2.2.2.2.2 x_tlen x_tkept) out0.1) 1 6 (va_A ([(h_x, .inr (5, [.ref h_x_format, .ref h_x_paper, .ref h_x_arguments, .ref h_x_directive, .ref h_x_composer, .int x_argumentCount, .int x_lastFault, .int x_lastPlace, .int x_unnumbered, .int x_previousArgument])), (h_x_arguments, .inl (cQ, 9, .inr (.inr (.inr (.inr (fun q => some (pA q))))))), (h_out, .inl (cJ, 1, .inr (.inl out)))] ++ apool pA pR pK ad cC x_kind x_value x_sz x_tlen x_tkept) sz) := by
  refine mm_ofC (own := "DirectivePrinterLaw") (cc := b_La_symbol) (maxL := 4) (ret := (some .int)) (hs := [(0, 9, 12, 13)]) (by decide) rfl rfl ?_
  intro p e s m below meth c hsz C0 hw htab
  generalize (va_A ([(h_x, .inr (5, [.ref h_x_format, .ref h_x_paper, .ref h_x_arguments, .ref h_x_directive, .ref h_x_composer, .int x_argumentCount, .int x_lastFault, .int x_lastPlace, .int x_unnumbered, .int x_previousArgument])), (h_x_arguments, .inl (cQ, 9, .inr (.inr (.inr (.inr (fun q => some (pA q))))))), (h_out, .inl (cJ, 1, .inr (.inl out)))] ++ apool pA pR pK ad cC x_kind x_value x_sz x_tlen x_tkept) sz) = A at C0 hw ⊢
  obtain ⟨xt, htb, tb1, tb2, tb3, tb4⟩ := mm_tab1 htab
  have hl := lv_entry ([.ref h_x, .int cd, .ref h_out]) (n := 4) (Nat.le_of_ble_eq_true rfl)
  rw [lg_entry_eq]
  generalize (lg_sl ([.ref h_x, .int cd, .ref h_out]) ++ List.replicate (4 - (lg_sl ([.ref h_x, .int cd, .ref h_out])).length) Slot.unset).toArray = ls at hl ⊢
  have hl : lv_has ls 4 [(0, .ref h_x), (1, .int cd), (2, .ref h_out)] := hl
  obtain ⟨hx, hb, hr, hml, hown, hts, hlocks, hK, hZ, hA⟩ := id C0
  generalize s.heap = H at hw ⊢
  unfold f_La_symbol at hf
  refine lv_aload_n hx hb d_La_symbol_0 rfl (lv_at hl 2 rfl) ?_
  refine lv_iconst (v := (0 : Int32)) hx hb d_La_symbol_1 (by decide) ?_
  refine lv_aload_n hx hb d_La_symbol_2 rfl (lv_at hl 0 rfl) ?_
  refine lv_iload_n hx hb d_La_symbol_3 rfl (lv_at hl 1 rfl) ?_
  rcases hT : f_DP_symbol_T cd with _ | _
  · rw [hT] at hf
    replace hf := mm_tN hf
    obtain ⟨r_1, o_2, o_3, o_4, o_5, hu, hf⟩ := mm_b5_ok hf
    refine mm_ciP (wr := [(h_out, .inl (cJ, 1, .inr (.inl out)))]) (va_runV (As := [.int cd]) (rest := [.int (0 : Int32), .ref h_out]) ⟨hx, hb, hml, hown, hts⟩ (c_DP_symbol l Zo dC dI cC cI cJ cQ x_argumentCount x_lastFault x_lastPlace x_unnumbered x_previousArgument cd x_kind x_value x_sz x_tlen x_tkept h_x h_x_arguments h_x_format h_x_paper h_x_directive h_x_composer pA pR pK H.size (r_1, o_2, o_3, o_4, o_5) hu) (cwV 1 hts (mm_gV q_728 q_729 q_730 q_54 q_731) rfl rfl rfl (by decide +kernel) ⟨Nat.le_of_ble_eq_true rfl, Nat.le_of_ble_eq_true rfl⟩) (mm_pvP Zo.1 hK hw hZ hA [0, 1] (by decide) rfl (ci := 5) (q0 := 0) rfl rfl) rfl rfl hl.1 rfl (lv_room (Nat.le_of_ble_eq_true rfl)) d_La_symbol_4 ⟨Nat.zero_le _, Nat.zero_le _⟩) hw hA [0, 1] [2] rfl rfl (by decide) (by decide) (fun H locs hw => ?_)
    have hw : mm_w (dC, dI) vwC A s ([(h_out, .inl (cJ, 1, .inr (.inl out))), (h_x, .inr (5, [.ref h_x_format, .ref h_x_paper, .ref h_x_arguments, .ref h_x_directive, .ref h_x_composer, .int o_2, .int x_lastFault, .int x_lastPlace, .int x_unnumbered, .int x_previousArgument])), (h_x_arguments, .inl (cQ, 9, .inr (.inr (.inr (.inr (fun q => some (pA q)))))))] ++ apool pA pR pK ad cC o_3 o_4 o_5 x_tlen x_tkept) H locs := hw
    refine lv_i2l (v := r_1.toInt64) hx hb d_La_symbol_7 rfl ?_
    obtain ⟨hz, hf⟩ := mm_grd hf
    refine va_last hx hb hK hw.1 hw.2.1 hw.2.2 0 2 rfl rfl hz d_La_symbol_8 (fun H locs hP hD hS => ?_)
    have hw : mm_w (dC, dI) vwC A s ([(h_out, .inl (cJ, 1, .inr (.inl (vp_updL out (0 : Int32).toNatClampNeg r_1.toInt64)))), (h_x, .inr (5, [.ref h_x_format, .ref h_x_paper, .ref h_x_arguments, .ref h_x_directive, .ref h_x_composer, .int o_2, .int x_lastFault, .int x_lastPlace, .int x_unnumbered, .int x_previousArgument])), (h_x_arguments, .inl (cQ, 9, .inr (.inr (.inr (.inr (fun q => some (pA q)))))))] ++ apool pA pR pK ad cC o_3 o_4 o_5 x_tlen x_tkept) H locs := ⟨hP, hD, hS⟩
    refine lv_goto (tgt := 15) hx hb d_La_symbol_9 (by decide) ?_
    refine lv_iconst (v := (0 : Int32)) hx hb d_La_symbol_15 (by decide) ?_
    refine W.widen (k := 1) (n := 6) (by decide) (by decide) ?_
    obtain rfl := Option.some.inj hf
    exact mm_iret hx hb hr hlocks hK (mm_wsubT hw [1, 2, 0] (by decide) rfl) rfl d_La_symbol_16
  · rw [hT] at hf
    replace hf := mm_tS hf
    refine mm_cthrow (As := [.int cd]) (rest := [.int (0 : Int32), .ref h_out]) ⟨hx, hb, hml, hown, hts⟩ (t_DP_symbol_T l hst Zo Zt dC dI cC cI cJ cQ cd h_x H.size hT) (cwV 1 hts (mm_gV q_728 q_729 q_730 q_54 q_731) rfl rfl rfl (by decide +kernel) ⟨Nat.le_of_ble_eq_true rfl, Nat.le_of_ble_eq_true rfl⟩) (mm_pvR Zo.1 hK hw hZ hA [] (by decide) rfl rfl (va_recv hK hw.1 (ci := 5) (q0 := 0) rfl rfl)) rfl hl.1 rfl (Nat.le_of_ble_eq_true rfl) d_La_symbol_4 ⟨Nat.le_of_ble_eq_true rfl, Nat.le_of_ble_eq_true rfl⟩ htb (by simp [covers, tb1, tb2]) (by rw [tb4]; decide) (by rw [tb4]; exact hts _ (List.mem_cons_of_mem _ q_653)) (fun ea H1 hz hk => ?_)
    have hw := mm_wkeep hw hz hk
    generalize H1 = H at hw ⊢
    rw [tb3]
    refine lv_astore_n (lv' := [(3, .ref ea), (0, .ref h_x), (1, .int cd), (2, .ref h_out)]) hx hb d_La_symbol_12 rfl hl (by decide) rfl (fun ls hl => ?_)
    refine lv_iconst (v := (1 : Int32)) hx hb d_La_symbol_13 (by decide) ?_
    refine W.widen (k := 1) (n := 6) (by decide) (by decide) ?_
    obtain rfl := Option.some.inj hf
    exact mm_iret hx hb hr hlocks hK (mm_wsubT hw [0, 1, 2] (by decide) rfl) rfl d_La_symbol_14
/-! DirectivePrinterLaw.whole(LDirectivePrinter;IJ[J)I -/
def f_La_whole (x_argumentCount : Int32) (bits : Int32) (va : Int64) (out : Nat → Int64) (x_kind : Nat → Nat) (x_value : Nat → Int64) (x_sz : Nat → Int32) : Option (Int32 × Int32 × (Nat → Int64) × (Nat → Nat) × (Nat → Int64) × (Nat → Int32)) := mm_t (f_DP_whole_T bits) (some ((1 : Int32), x_argumentCount, out, x_kind, x_value, x_sz)) (mm_b5 (f_DP_whole x_argumentCount bits va x_kind x_value x_sz) (fun r_1 o_2 o_3 o_4 o_5 => (if (0 : Int32) < 0 ∨ (1) ≤ (0 : Int32).toNatClampNeg then none else some ((0 : Int32), o_2, vp_updL out (0 : Int32).toNatClampNeg r_1.toInt64, o_3, o_4, o_5))))
abbrev r_La_whole : Room := { frames := 7, cells := 1, slots := 6, locals := 114 }
set_option maxHeartbeats 4000000 in
set_option maxRecDepth 100000 in
theorem c_La_whole (l : Launch) (hst : l.stackTraces = false) {Z : (Nat → Prop) → State → Heap → Prop} {ad adK adV : Nat → Nat} (Zo : mm_Zx Z ad adK adV) (Zt : ∀ (A : Nat → Prop) (U : State) (H : Heap), Z A U H → zt A U H) (dC : Nat → ClassId) (dI : Nat → Nat → Nat) (cC cI cJ cQ : ClassId) (x_argumentCount : Int32) (x_lastFault : Int32) (x_lastPlace : Int32) (x_unnumbered : Int32) (x_previousArgument : Int32) (bits : Int32) (va : Int64) (out : Nat → Int64) (x_kind : Nat → Nat) (x_value : Nat → Int64) (x_sz : Nat → Int32) (x_tlen : Nat → Int32) (x_tkept : Nat → Nat → Int32) (h_x h_x_arguments h_out h_x_format h_x_paper h_x_directive h_x_composer : Nat) (pA pR pK : Nat → Nat) (sz : Nat) (out0 : Int32 × Int32 × (Nat → Int64) × (Nat → Nat) × (Nat → Int64) × (Nat → Int32)) (hf : f_La_whole x_argumentCount bits va out x_kind x_value x_sz = some out0) : Met l y_La_whole w_La_whole r_La_whole (mm_pre (dC, dI) vwC (tyl cC cI cJ cQ) Z ([(h_x, .inr (5, [.ref h_x_format, .ref h_x_paper, .ref h_x_arguments, .ref h_x_directive, .ref h_x_composer, .int x_argumentCount, .int x_lastFault, .int x_lastPlace, .int x_unnumbered, .int x_previousArgument])), (h_x_arguments, .inl (cQ, 9, .inr (.inr (.inr (.inr (fun q => some (pA q))))))), (h_out, .inl (cJ, 1, .inr (.inl out)))] ++ apool pA pR pK ad cC x_kind x_value x_sz x_tlen x_tkept) sz [.ref h_x, .int bits, .long va, .ref h_out]) (mm_qi (dC, dI) vwC (tyl cC cI cJ cQ) (va_A ([(h_x, .inr (5, [.ref h_x_format, .ref h_x_paper, .ref h_x_arguments, .ref h_x_directive, .ref h_x_composer, .int x_argumentCount, .int x_lastFault, .int x_lastPlace, .int x_unnumbered, .int x_previousArgument])), (h_x_arguments, .inl (cQ, 9, .inr (.inr (.inr (.inr (fun q => some (pA q))))))), (h_out, .inl (cJ, 1, .inr (.inl out)))] ++ apool pA pR pK ad cC x_kind x_value x_sz x_tlen x_tkept) sz) ([(h_x, .inr (5, [.ref h_x_format, .ref h_x_paper, .ref h_x_arguments, .ref h_x_directive, .ref h_x_composer, .int out0.2.1, .int x_lastFault, .int x_lastPlace, .int x_unnumbered, .int x_previousArgument])), (h_x_arguments, .inl (cQ, 9, .inr (.inr (.inr (.inr (fun q => some (pA q))))))), (h_out, .inl (cJ, 1, .inr (.inl out0.2.2.1)))] ++ apool pA pR pK ad cC out0.2.2.2.1 out0.2.2.2.2.1 out0.2.2.2.2.2 x_tlen x_tkept) out0.1) 1 6 (va_A ([(h_x, .inr (5, [.ref h_x_format, .ref h_x_paper, .ref h_x_arguments, .ref h_x_directive, .ref h_x_composer, .int x_argumentCount, .int x_lastFault, .int x_lastPlace, .int x_unnumbered, .int x_previousArgument])), (h_x_arguments, .inl (cQ, 9, .inr (.inr (.inr (.inr (fun q => some (pA q))))))), (h_out, .inl (cJ, 1, .inr (.inl out)))] ++ apool pA pR pK ad cC x_kind x_value x_sz x_tlen x_tkept) sz) := by
  refine mm_ofC (own := "DirectivePrinterLaw") (cc := b_La_whole) (maxL := 6) (ret := (some .int)) (hs := [(0, 11, 14, 13)]) (by decide) rfl rfl ?_
  intro p e s m below meth c hsz C0 hw htab
  generalize (va_A ([(h_x, .inr (5, [.ref h_x_format, .ref h_x_paper, .ref h_x_arguments, .ref h_x_directive, .ref h_x_composer, .int x_argumentCount, .int x_lastFault, .int x_lastPlace, .int x_unnumbered, .int x_previousArgument])), (h_x_arguments, .inl (cQ, 9, .inr (.inr (.inr (.inr (fun q => some (pA q))))))), (h_out, .inl (cJ, 1, .inr (.inl out)))] ++ apool pA pR pK ad cC x_kind x_value x_sz x_tlen x_tkept) sz) = A at C0 hw ⊢
  obtain ⟨xt, htb, tb1, tb2, tb3, tb4⟩ := mm_tab1 htab
  have hl := lv_entry ([.ref h_x, .int bits, .long va, .ref h_out]) (n := 6) (Nat.le_of_ble_eq_true rfl)
  rw [lg_entry_eq]
  generalize (lg_sl ([.ref h_x, .int bits, .long va, .ref h_out]) ++ List.replicate (6 - (lg_sl ([.ref h_x, .int bits, .long va, .ref h_out])).length) Slot.unset).toArray = ls at hl ⊢
  have hl : lv_has ls 6 [(0, .ref h_x), (1, .int bits), (2, .long va), (4, .ref h_out)] := hl
  obtain ⟨hx, hb, hr, hml, hown, hts, hlocks, hK, hZ, hA⟩ := id C0
  generalize s.heap = H at hw ⊢
  unfold f_La_whole at hf
  refine lv_aload hx hb d_La_whole_0 (lv_at hl 3 rfl) ?_
  refine lv_iconst (v := (0 : Int32)) hx hb d_La_whole_2 (by decide) ?_
  refine lv_aload_n hx hb d_La_whole_3 rfl (lv_at hl 0 rfl) ?_
  refine lv_iload_n hx hb d_La_whole_4 rfl (lv_at hl 1 rfl) ?_
  refine lv_lload_n hx hb d_La_whole_5 rfl (lv_at hl 2 rfl) ?_
  rcases hT : f_DP_whole_T bits with _ | _
  · rw [hT] at hf
    replace hf := mm_tN hf
    obtain ⟨r_1, o_2, o_3, o_4, o_5, hu, hf⟩ := mm_b5_ok hf
    refine mm_ciP (wr := [(h_out, .inl (cJ, 1, .inr (.inl out)))]) (va_runV (As := [.int bits, .long va]) (rest := [.int (0 : Int32), .ref h_out]) ⟨hx, hb, hml, hown, hts⟩ (c_DP_whole l Zo dC dI cC cI cJ cQ x_argumentCount x_lastFault x_lastPlace x_unnumbered x_previousArgument bits va x_kind x_value x_sz x_tlen x_tkept h_x h_x_arguments h_x_format h_x_paper h_x_directive h_x_composer pA pR pK H.size (r_1, o_2, o_3, o_4, o_5) hu) (cwV 2 hts (mm_gV q_737 q_738 q_739 q_54 q_740) rfl rfl rfl (by decide +kernel) ⟨Nat.le_of_ble_eq_true rfl, Nat.le_of_ble_eq_true rfl⟩) (mm_pvP Zo.1 hK hw hZ hA [0, 1] (by decide) rfl (ci := 5) (q0 := 0) rfl rfl) rfl rfl hl.1 rfl (lv_room (Nat.le_of_ble_eq_true rfl)) d_La_whole_6 ⟨Nat.zero_le _, Nat.zero_le _⟩) hw hA [0, 1] [2] rfl rfl (by decide) (by decide) (fun H locs hw => ?_)
    have hw : mm_w (dC, dI) vwC A s ([(h_out, .inl (cJ, 1, .inr (.inl out))), (h_x, .inr (5, [.ref h_x_format, .ref h_x_paper, .ref h_x_arguments, .ref h_x_directive, .ref h_x_composer, .int o_2, .int x_lastFault, .int x_lastPlace, .int x_unnumbered, .int x_previousArgument])), (h_x_arguments, .inl (cQ, 9, .inr (.inr (.inr (.inr (fun q => some (pA q)))))))] ++ apool pA pR pK ad cC o_3 o_4 o_5 x_tlen x_tkept) H locs := hw
    refine lv_i2l (v := r_1.toInt64) hx hb d_La_whole_9 rfl ?_
    obtain ⟨hz, hf⟩ := mm_grd hf
    refine va_last hx hb hK hw.1 hw.2.1 hw.2.2 0 2 rfl rfl hz d_La_whole_10 (fun H locs hP hD hS => ?_)
    have hw : mm_w (dC, dI) vwC A s ([(h_out, .inl (cJ, 1, .inr (.inl (vp_updL out (0 : Int32).toNatClampNeg r_1.toInt64)))), (h_x, .inr (5, [.ref h_x_format, .ref h_x_paper, .ref h_x_arguments, .ref h_x_directive, .ref h_x_composer, .int o_2, .int x_lastFault, .int x_lastPlace, .int x_unnumbered, .int x_previousArgument])), (h_x_arguments, .inl (cQ, 9, .inr (.inr (.inr (.inr (fun q => some (pA q)))))))] ++ apool pA pR pK ad cC o_3 o_4 o_5 x_tlen x_tkept) H locs := ⟨hP, hD, hS⟩
    refine lv_goto (tgt := 18) hx hb d_La_whole_11 (by decide) ?_
    refine lv_iconst (v := (0 : Int32)) hx hb d_La_whole_18 (by decide) ?_
    refine W.widen (k := 1) (n := 6) (by decide) (by decide) ?_
    obtain rfl := Option.some.inj hf
    exact mm_iret hx hb hr hlocks hK (mm_wsubT hw [1, 2, 0] (by decide) rfl) rfl d_La_whole_19
  · rw [hT] at hf
    replace hf := mm_tS hf
    refine mm_cthrow (As := [.int bits, .long va]) (rest := [.int (0 : Int32), .ref h_out]) ⟨hx, hb, hml, hown, hts⟩ (t_DP_whole_T l hst Zo Zt dC dI cC cI cJ cQ bits va h_x H.size hT) (cwV 2 hts (mm_gV q_737 q_738 q_739 q_54 q_740) rfl rfl rfl (by decide +kernel) ⟨Nat.le_of_ble_eq_true rfl, Nat.le_of_ble_eq_true rfl⟩) (mm_pvR Zo.1 hK hw hZ hA [] (by decide) rfl rfl (va_recv hK hw.1 (ci := 5) (q0 := 0) rfl rfl)) rfl hl.1 rfl (Nat.le_of_ble_eq_true rfl) d_La_whole_6 ⟨Nat.le_of_ble_eq_true rfl, Nat.le_of_ble_eq_true rfl⟩ htb (by simp [covers, tb1, tb2]) (by rw [tb4]; decide) (by rw [tb4]; exact hts _ (List.mem_cons_of_mem _ q_653)) (fun ea H1 hz hk => ?_)
    have hw := mm_wkeep hw hz hk
    generalize H1 = H at hw ⊢
    rw [tb3]
    refine lv_astore (lv' := [(5, .ref ea), (0, .ref h_x), (1, .int bits), (2, .long va), (4, .ref h_out)]) hx hb d_La_whole_14 hl (by decide) rfl (fun ls hl => ?_)
    refine lv_iconst (v := (1 : Int32)) hx hb d_La_whole_16 (by decide) ?_
    refine W.widen (k := 1) (n := 6) (by decide) (by decide) ?_
    obtain rfl := Option.some.inj hf
    exact mm_iret hx hb hr hlocks hK (mm_wsubT hw [0, 1, 2] (by decide) rfl) rfl d_La_whole_17
/-! DirectivePrinterLaw.text(LDirectivePrinter;[J)I -/
def f_La_text (N : Nat) (x_format_kept_n : Nat) (x_format_kept : Nat → Int32) (x_format_length : Int32) (x_argumentCount : Int32) (out : Nat → Int64) (x_kind : Nat → Nat) (x_value : Nat → Int64) (x_sz : Nat → Int32) (x_tlen : Nat → Int32) (x_tkept : Nat → Nat → Int32) : Option (Int32 × Int32 × Int32 × (Nat → Int64) × (Nat → Nat) × (Nat → Int64) × (Nat → Int32) × (Nat → Int32) × (Nat → Nat → Int32)) := mm_t (f_DP_text_T x_format_length) (some ((1 : Int32), x_format_length, x_argumentCount, out, x_kind, x_value, x_sz, x_tlen, x_tkept)) (mm_b8 (f_DP_text N x_format_kept_n x_format_kept x_format_length x_argumentCount x_kind x_value x_sz x_tlen x_tkept) (fun r_1 o_2 o_3 o_4 o_5 o_6 o_7 o_8 => (if (0 : Int32) < 0 ∨ (1) ≤ (0 : Int32).toNatClampNeg then none else some ((0 : Int32), o_2, o_3, vp_updL out (0 : Int32).toNatClampNeg r_1.toInt64, o_4, o_5, o_6, o_7, o_8))))
abbrev r_La_text : Room := { frames := 7, cells := 1, slots := 6, locals := 112 }
set_option maxHeartbeats 4000000 in
set_option maxRecDepth 100000 in
theorem c_La_text (l : Launch) (hst : l.stackTraces = false) {Z : (Nat → Prop) → State → Heap → Prop} {ad adK adV : Nat → Nat} (Zo : mm_Zx Z ad adK adV) (Zt : ∀ (A : Nat → Prop) (U : State) (H : Heap), Z A U H → zt A U H) (dC : Nat → ClassId) (dI : Nat → Nat → Nat) (cC cI cJ cQ : ClassId) (N : Nat) (x_format_kept_n : Nat) (x_format_kept : Nat → Int32) (x_format_length : Int32) (x_argumentCount : Int32) (x_lastFault : Int32) (x_lastPlace : Int32) (x_unnumbered : Int32) (x_previousArgument : Int32) (out : Nat → Int64) (x_kind : Nat → Nat) (x_value : Nat → Int64) (x_sz : Nat → Int32) (x_tlen : Nat → Int32) (x_tkept : Nat → Nat → Int32) (h_x h_x_format h_x_format_kept h_x_arguments h_out h_x_paper h_x_directive h_x_composer : Nat) (pA pR pK : Nat → Nat) (sz : Nat) (out0 : Int32 × Int32 × Int32 × (Nat → Int64) × (Nat → Nat) × (Nat → Int64) × (Nat → Int32) × (Nat → Int32) × (Nat → Nat → Int32)) (hf : f_La_text N x_format_kept_n x_format_kept x_format_length x_argumentCount out x_kind x_value x_sz x_tlen x_tkept = some out0) : Met l y_La_text w_La_text r_La_text (mm_pre (dC, dI) vwC (tyl cC cI cJ cQ) Z ([(h_x, .inr (5, [.ref h_x_format, .ref h_x_paper, .ref h_x_arguments, .ref h_x_directive, .ref h_x_composer, .int x_argumentCount, .int x_lastFault, .int x_lastPlace, .int x_unnumbered, .int x_previousArgument])), (h_x_format, .inr (0, [.ref h_x_format_kept, .int x_format_length])), (h_x_format_kept, .inl (cC, x_format_kept_n, .inl x_format_kept)), (h_x_arguments, .inl (cQ, 9, .inr (.inr (.inr (.inr (fun q => some (pA q))))))), (h_out, .inl (cJ, 1, .inr (.inl out)))] ++ apool pA pR pK ad cC x_kind x_value x_sz x_tlen x_tkept) sz [.ref h_x, .ref h_out]) (mm_qi (dC, dI) vwC (tyl cC cI cJ cQ) (va_A ([(h_x, .inr (5, [.ref h_x_format, .ref h_x_paper, .ref h_x_arguments, .ref h_x_directive, .ref h_x_composer, .int x_argumentCount, .int x_lastFault, .int x_lastPlace, .int x_unnumbered, .int x_previousArgument])), (h_x_format, .inr (0, [.ref h_x_format_kept, .int x_format_length])), (h_x_format_kept, .inl (cC, x_format_kept_n, .inl x_format_kept)), (h_x_arguments, .inl (cQ, 9, .inr (.inr (.inr (.inr (fun q => some (pA q))))))), (h_out, .inl (cJ, 1, .inr (.inl out)))] ++ apool pA pR pK ad cC x_kind x_value x_sz x_tlen x_tkept) sz) ([(h_x, .inr (5, [.ref h_x_format, .ref h_x_paper, .ref h_x_arguments, .ref h_x_directive, .ref h_x_composer, .int out0.2.2.1, .int x_lastFault, .int x_lastPlace, .int x_unnumbered, .int x_previousArgument])), (h_x_format, .inr (0, [.ref h_x_format_kept, .int out0.2.1])), (h_x_format_kept, .inl (cC, x_format_kept_n, .inl x_format_kept)), (h_x_arguments, .inl (cQ, 9, .inr (.inr (.inr (.inr (fun q => some (pA q))))))), (h_out, .inl (cJ, 1, .inr (.inl out0.2.2.2.1)))] ++ apool pA pR pK ad cC out0.2.2.2.2.1 out0.2.2.2.2.2.1 out0.2.2.2.2.2.2.1 out0.2.2.2.2.2.2.2.1 out0.2.2.2.2.2.2.2.2) out0.1) 1 6 (va_A ([(h_x, .inr (5, [.ref h_x_format, .ref h_x_paper, .ref h_x_arguments, .ref h_x_directive, .ref h_x_composer, .int x_argumentCount, .int x_lastFault, .int x_lastPlace, .int x_unnumbered, .int x_previousArgument])), (h_x_format, .inr (0, [.ref h_x_format_kept, .int x_format_length])), (h_x_format_kept, .inl (cC, x_format_kept_n, .inl x_format_kept)), (h_x_arguments, .inl (cQ, 9, .inr (.inr (.inr (.inr (fun q => some (pA q))))))), (h_out, .inl (cJ, 1, .inr (.inl out)))] ++ apool pA pR pK ad cC x_kind x_value x_sz x_tlen x_tkept) sz) := by
  refine mm_ofC (own := "DirectivePrinterLaw") (cc := b_La_text) (maxL := 3) (ret := (some .int)) (hs := [(0, 8, 11, 26)]) (by decide) rfl rfl ?_
  intro p e s m below meth c hsz C0 hw htab
  generalize (va_A ([(h_x, .inr (5, [.ref h_x_format, .ref h_x_paper, .ref h_x_arguments, .ref h_x_directive, .ref h_x_composer, .int x_argumentCount, .int x_lastFault, .int x_lastPlace, .int x_unnumbered, .int x_previousArgument])), (h_x_format, .inr (0, [.ref h_x_format_kept, .int x_format_length])), (h_x_format_kept, .inl (cC, x_format_kept_n, .inl x_format_kept)), (h_x_arguments, .inl (cQ, 9, .inr (.inr (.inr (.inr (fun q => some (pA q))))))), (h_out, .inl (cJ, 1, .inr (.inl out)))] ++ apool pA pR pK ad cC x_kind x_value x_sz x_tlen x_tkept) sz) = A at C0 hw ⊢
  obtain ⟨xt, htb, tb1, tb2, tb3, tb4⟩ := mm_tab1 htab
  have hl := lv_entry ([.ref h_x, .ref h_out]) (n := 3) (Nat.le_of_ble_eq_true rfl)
  rw [lg_entry_eq]
  generalize (lg_sl ([.ref h_x, .ref h_out]) ++ List.replicate (3 - (lg_sl ([.ref h_x, .ref h_out])).length) Slot.unset).toArray = ls at hl ⊢
  have hl : lv_has ls 3 [(0, .ref h_x), (1, .ref h_out)] := hl
  obtain ⟨hx, hb, hr, hml, hown, hts, hlocks, hK, hZ, hA⟩ := id C0
  generalize s.heap = H at hw ⊢
  unfold f_La_text at hf
  refine lv_aload_n hx hb d_La_text_0 rfl (lv_at hl 1 rfl) ?_
  refine lv_iconst (v := (0 : Int32)) hx hb d_La_text_1 (by decide) ?_
  refine lv_aload_n hx hb d_La_text_2 rfl (lv_at hl 0 rfl) ?_
  rcases hT : f_DP_text_T x_format_length with _ | _
  · rw [hT] at hf
    replace hf := mm_tN hf
    obtain ⟨r_1, o_2, o_3, o_4, o_5, o_6, o_7, o_8, hu, hf⟩ := mm_b8_ok hf
    refine mm_ciP (wr := [(h_out, .inl (cJ, 1, .inr (.inl out)))]) (va_runV (As := []) (rest := [.int (0 : Int32), .ref h_out]) ⟨hx, hb, hml, hown, hts⟩ (c_DP_text l Zo dC dI cC cI cJ cQ N x_format_kept_n x_format_kept x_format_length x_argumentCount x_lastFault x_lastPlace x_unnumbered x_previousArgument x_kind x_value x_sz x_tlen x_tkept h_x h_x_format h_x_format_kept h_x_arguments h_x_paper h_x_directive h_x_composer pA pR pK H.size (r_1, o_2, o_3, o_4, o_5, o_6, o_7, o_8) hu) (cwV 0 hts (mm_gV q_747 q_748 q_749 q_54 q_750) rfl rfl rfl (by decide +kernel) ⟨Nat.le_of_ble_eq_true rfl, Nat.le_of_ble_eq_true rfl⟩) (mm_pvP Zo.1 hK hw hZ hA [0, 1, 2, 3] (by decide) rfl (ci := 5) (q0 := 0) rfl rfl) rfl rfl hl.1 rfl (lv_room (Nat.le_of_ble_eq_true rfl)) d_La_text_3 ⟨Nat.zero_le _, Nat.zero_le _⟩) hw hA [0, 1, 2, 3] [4] rfl rfl (by decide) (by decide) (fun H locs hw => ?_)
    have hw : mm_w (dC, dI) vwC A s ([(h_out, .inl (cJ, 1, .inr (.inl out))), (h_x, .inr (5, [.ref h_x_format, .ref h_x_paper, .ref h_x_arguments, .ref h_x_directive, .ref h_x_composer, .int o_3, .int x_lastFault, .int x_lastPlace, .int x_unnumbered, .int x_previousArgument])), (h_x_format, .inr (0, [.ref h_x_format_kept, .int o_2])), (h_x_format_kept, .inl (cC, x_format_kept_n, .inl x_format_kept)), (h_x_arguments, .inl (cQ, 9, .inr (.inr (.inr (.inr (fun q => some (pA q)))))))] ++ apool pA pR pK ad cC o_4 o_5 o_6 o_7 o_8) H locs := hw
    refine lv_i2l (v := r_1.toInt64) hx hb d_La_text_6 rfl ?_
    obtain ⟨hz, hf⟩ := mm_grd hf
    refine va_last hx hb hK hw.1 hw.2.1 hw.2.2 0 2 rfl rfl hz d_La_text_7 (fun H locs hP hD hS => ?_)
    have hw : mm_w (dC, dI) vwC A s ([(h_out, .inl (cJ, 1, .inr (.inl (vp_updL out (0 : Int32).toNatClampNeg r_1.toInt64)))), (h_x, .inr (5, [.ref h_x_format, .ref h_x_paper, .ref h_x_arguments, .ref h_x_directive, .ref h_x_composer, .int o_3, .int x_lastFault, .int x_lastPlace, .int x_unnumbered, .int x_previousArgument])), (h_x_format, .inr (0, [.ref h_x_format_kept, .int o_2])), (h_x_format_kept, .inl (cC, x_format_kept_n, .inl x_format_kept)), (h_x_arguments, .inl (cQ, 9, .inr (.inr (.inr (.inr (fun q => some (pA q)))))))] ++ apool pA pR pK ad cC o_4 o_5 o_6 o_7 o_8) H locs := ⟨hP, hD, hS⟩
    refine lv_goto (tgt := 14) hx hb d_La_text_8 (by decide) ?_
    refine lv_iconst (v := (0 : Int32)) hx hb d_La_text_14 (by decide) ?_
    refine W.widen (k := 1) (n := 6) (by decide) (by decide) ?_
    obtain rfl := Option.some.inj hf
    exact mm_iret hx hb hr hlocks hK (mm_wsubT hw [1, 2, 3, 4, 0] (by decide) rfl) rfl d_La_text_15
  · rw [hT] at hf
    replace hf := mm_tS hf
    refine mm_cthrow (As := []) (rest := [.int (0 : Int32), .ref h_out]) ⟨hx, hb, hml, hown, hts⟩ (t_DP_text_T l hst Zo Zt dC dI cC cI cJ cQ x_format_kept_n x_format_kept x_format_length x_argumentCount x_lastFault x_lastPlace x_unnumbered x_previousArgument h_x h_x_format h_x_format_kept h_x_paper h_x_arguments h_x_directive h_x_composer H.size hT) (cwV 0 hts (mm_gV q_747 q_748 q_749 q_54 q_750) rfl rfl rfl (by decide +kernel) ⟨Nat.le_of_ble_eq_true rfl, Nat.le_of_ble_eq_true rfl⟩) (mm_pv Zo.1 hK hw hZ hA [0, 1, 2] (by decide) rfl rfl (ci := 5) (q0 := 0) rfl rfl) rfl hl.1 rfl (Nat.le_of_ble_eq_true rfl) d_La_text_3 ⟨Nat.le_of_ble_eq_true rfl, Nat.le_of_ble_eq_true rfl⟩ htb (by simp [covers, tb1, tb2]) (by rw [tb4]; decide) (by rw [tb4]; exact hts _ (List.mem_cons_of_mem _ q_746)) (fun ea H1 hz hk => ?_)
    have hw := mm_wkeep hw hz hk
    generalize H1 = H at hw ⊢
    rw [tb3]
    refine lv_astore_n (lv' := [(2, .ref ea), (0, .ref h_x), (1, .ref h_out)]) hx hb d_La_text_11 rfl hl (by decide) rfl (fun ls hl => ?_)
    refine lv_iconst (v := (1 : Int32)) hx hb d_La_text_12 (by decide) ?_
    refine W.widen (k := 1) (n := 6) (by decide) (by decide) ?_
    obtain rfl := Option.some.inj hf
    exact mm_iret hx hb hr hlocks hK (mm_wsubT hw [0, 1, 2, 3, 4] (by decide) rfl) rfl d_La_text_13
/-! DirectivePrinterLaw.decimal(LDirectivePrinter;JI[J)I -/
def f_La_decimal (x_argumentCount : Int32) (us : Int64) (sc : Int32) (out : Nat → Int64) (x_kind : Nat → Nat) (x_value : Nat → Int64) (x_sz : Nat → Int32) : Option (Int32 × Int32 × (Nat → Int64) × (Nat → Nat) × (Nat → Int64) × (Nat → Int32)) := mm_t (f_DP_decimal_T sc) (some ((1 : Int32), x_argumentCount, out, x_kind, x_value, x_sz)) (mm_b5 (f_DP_decimal x_argumentCount us sc x_kind x_value x_sz) (fun r_1 o_2 o_3 o_4 o_5 => (if (0 : Int32) < 0 ∨ (1) ≤ (0 : Int32).toNatClampNeg then none else some ((0 : Int32), o_2, vp_updL out (0 : Int32).toNatClampNeg r_1.toInt64, o_3, o_4, o_5))))
abbrev r_La_decimal : Room := { frames := 7, cells := 1, slots := 6, locals := 113 }
set_option maxHeartbeats 4000000 in
set_option maxRecDepth 100000 in
theorem c_La_decimal (l : Launch) (hst : l.stackTraces = false) {Z : (Nat → Prop) → State → Heap → Prop} {ad adK adV : Nat → Nat} (Zo : mm_Zx Z ad adK adV) (Zt : ∀ (A : Nat → Prop) (U : State) (H : Heap), Z A U H → zt A U H) (dC : Nat → ClassId) (dI : Nat → Nat → Nat) (cC cI cJ cQ : ClassId) (x_argumentCount : Int32) (x_lastFault : Int32) (x_lastPlace : Int32) (x_unnumbered : Int32) (x_previousArgument : Int32) (us : Int64) (sc : Int32) (out : Nat → Int64) (x_kind : Nat → Nat) (x_value : Nat → Int64) (x_sz : Nat → Int32) (x_tlen : Nat → Int32) (x_tkept : Nat → Nat → Int32) (h_x h_x_arguments h_out h_x_format h_x_paper h_x_directive h_x_composer : Nat) (pA pR pK : Nat → Nat) (sz : Nat) (out0 : Int32 × Int32 × (Nat → Int64) × (Nat → Nat) × (Nat → Int64) × (Nat → Int32)) (hf : f_La_decimal x_argumentCount us sc out x_kind x_value x_sz = some out0) : Met l y_La_decimal w_La_decimal r_La_decimal (mm_pre (dC, dI) vwC (tyl cC cI cJ cQ) Z ([(h_x, .inr (5, [.ref h_x_format, .ref h_x_paper, .ref h_x_arguments, .ref h_x_directive, .ref h_x_composer, .int x_argumentCount, .int x_lastFault, .int x_lastPlace, .int x_unnumbered, .int x_previousArgument])), (h_x_arguments, .inl (cQ, 9, .inr (.inr (.inr (.inr (fun q => some (pA q))))))), (h_out, .inl (cJ, 1, .inr (.inl out)))] ++ apool pA pR pK ad cC x_kind x_value x_sz x_tlen x_tkept) sz [.ref h_x, .long us, .int sc, .ref h_out]) (mm_qi (dC, dI) vwC (tyl cC cI cJ cQ) (va_A ([(h_x, .inr (5, [.ref h_x_format, .ref h_x_paper, .ref h_x_arguments, .ref h_x_directive, .ref h_x_composer, .int x_argumentCount, .int x_lastFault, .int x_lastPlace, .int x_unnumbered, .int x_previousArgument])), (h_x_arguments, .inl (cQ, 9, .inr (.inr (.inr (.inr (fun q => some (pA q))))))), (h_out, .inl (cJ, 1, .inr (.inl out)))] ++ apool pA pR pK ad cC x_kind x_value x_sz x_tlen x_tkept) sz) ([(h_x, .inr (5, [.ref h_x_format, .ref h_x_paper, .ref h_x_arguments, .ref h_x_directive, .ref h_x_composer, .int out0.2.1, .int x_lastFault, .int x_lastPlace, .int x_unnumbered, .int x_previousArgument])), (h_x_arguments, .inl (cQ, 9, .inr (.inr (.inr (.inr (fun q => some (pA q))))))), (h_out, .inl (cJ, 1, .inr (.inl out0.2.2.1)))] ++ apool pA pR pK ad cC out0.2.2.2.1 out0.2.2.2.2.1 out0.2.2.2.2.2 x_tlen x_tkept) out0.1) 1 6 (va_A ([(h_x, .inr (5, [.ref h_x_format, .ref h_x_paper, .ref h_x_arguments, .ref h_x_directive, .ref h_x_composer, .int x_argumentCount, .int x_lastFault, .int x_lastPlace, .int x_unnumbered, .int x_previousArgument])), (h_x_arguments, .inl (cQ, 9, .inr (.inr (.inr (.inr (fun q => some (pA q))))))), (h_out, .inl (cJ, 1, .inr (.inl out)))] ++ apool pA pR pK ad cC x_kind x_value x_sz x_tlen x_tkept) sz) := by
  refine mm_ofC (own := "DirectivePrinterLaw") (cc := b_La_decimal) (maxL := 6) (ret := (some .int)) (hs := [(0, 11, 14, 13)]) (by decide) rfl rfl ?_
  intro p e s m below meth c hsz C0 hw htab
  generalize (va_A ([(h_x, .inr (5, [.ref h_x_format, .ref h_x_paper, .ref h_x_arguments, .ref h_x_directive, .ref h_x_composer, .int x_argumentCount, .int x_lastFault, .int x_lastPlace, .int x_unnumbered, .int x_previousArgument])), (h_x_arguments, .inl (cQ, 9, .inr (.inr (.inr (.inr (fun q => some (pA q))))))), (h_out, .inl (cJ, 1, .inr (.inl out)))] ++ apool pA pR pK ad cC x_kind x_value x_sz x_tlen x_tkept) sz) = A at C0 hw ⊢
  obtain ⟨xt, htb, tb1, tb2, tb3, tb4⟩ := mm_tab1 htab
  have hl := lv_entry ([.ref h_x, .long us, .int sc, .ref h_out]) (n := 6) (Nat.le_of_ble_eq_true rfl)
  rw [lg_entry_eq]
  generalize (lg_sl ([.ref h_x, .long us, .int sc, .ref h_out]) ++ List.replicate (6 - (lg_sl ([.ref h_x, .long us, .int sc, .ref h_out])).length) Slot.unset).toArray = ls at hl ⊢
  have hl : lv_has ls 6 [(0, .ref h_x), (1, .long us), (3, .int sc), (4, .ref h_out)] := hl
  obtain ⟨hx, hb, hr, hml, hown, hts, hlocks, hK, hZ, hA⟩ := id C0
  generalize s.heap = H at hw ⊢
  unfold f_La_decimal at hf
  refine lv_aload hx hb d_La_decimal_0 (lv_at hl 3 rfl) ?_
  refine lv_iconst (v := (0 : Int32)) hx hb d_La_decimal_2 (by decide) ?_
  refine lv_aload_n hx hb d_La_decimal_3 rfl (lv_at hl 0 rfl) ?_
  refine lv_lload_n hx hb d_La_decimal_4 rfl (lv_at hl 1 rfl) ?_
  refine lv_iload_n hx hb d_La_decimal_5 rfl (lv_at hl 2 rfl) ?_
  rcases hT : f_DP_decimal_T sc with _ | _
  · rw [hT] at hf
    replace hf := mm_tN hf
    obtain ⟨r_1, o_2, o_3, o_4, o_5, hu, hf⟩ := mm_b5_ok hf
    refine mm_ciP (wr := [(h_out, .inl (cJ, 1, .inr (.inl out)))]) (va_runV (As := [.long us, .int sc]) (rest := [.int (0 : Int32), .ref h_out]) ⟨hx, hb, hml, hown, hts⟩ (c_DP_decimal l Zo dC dI cC cI cJ cQ x_argumentCount x_lastFault x_lastPlace x_unnumbered x_previousArgument us sc x_kind x_value x_sz x_tlen x_tkept h_x h_x_arguments h_x_format h_x_paper h_x_directive h_x_composer pA pR pK H.size (r_1, o_2, o_3, o_4, o_5) hu) (cwV 2 hts (mm_gV q_772 q_773 q_774 q_54 q_775) rfl rfl rfl (by decide +kernel) ⟨Nat.le_of_ble_eq_true rfl, Nat.le_of_ble_eq_true rfl⟩) (mm_pvP Zo.1 hK hw hZ hA [0, 1] (by decide) rfl (ci := 5) (q0 := 0) rfl rfl) rfl rfl hl.1 rfl (lv_room (Nat.le_of_ble_eq_true rfl)) d_La_decimal_6 ⟨Nat.zero_le _, Nat.zero_le _⟩) hw hA [0, 1] [2] rfl rfl (by decide) (by decide) (fun H locs hw => ?_)
    have hw : mm_w (dC, dI) vwC A s ([(h_out, .inl (cJ, 1, .inr (.inl out))), (h_x, .inr (5, [.ref h_x_format, .ref h_x_paper, .ref h_x_arguments, .ref h_x_directive, .ref h_x_composer, .int o_2, .int x_lastFault, .int x_lastPlace, .int x_unnumbered, .int x_previousArgument])), (h_x_arguments, .inl (cQ, 9, .inr (.inr (.inr (.inr (fun q => some (pA q)))))))] ++ apool pA pR pK ad cC o_3 o_4 o_5 x_tlen x_tkept) H locs := hw
    refine lv_i2l (v := r_1.toInt64) hx hb d_La_decimal_9 rfl ?_
    obtain ⟨hz, hf⟩ := mm_grd hf
    refine va_last hx hb hK hw.1 hw.2.1 hw.2.2 0 2 rfl rfl hz d_La_decimal_10 (fun H locs hP hD hS => ?_)
    have hw : mm_w (dC, dI) vwC A s ([(h_out, .inl (cJ, 1, .inr (.inl (vp_updL out (0 : Int32).toNatClampNeg r_1.toInt64)))), (h_x, .inr (5, [.ref h_x_format, .ref h_x_paper, .ref h_x_arguments, .ref h_x_directive, .ref h_x_composer, .int o_2, .int x_lastFault, .int x_lastPlace, .int x_unnumbered, .int x_previousArgument])), (h_x_arguments, .inl (cQ, 9, .inr (.inr (.inr (.inr (fun q => some (pA q)))))))] ++ apool pA pR pK ad cC o_3 o_4 o_5 x_tlen x_tkept) H locs := ⟨hP, hD, hS⟩
    refine lv_goto (tgt := 18) hx hb d_La_decimal_11 (by decide) ?_
    refine lv_iconst (v := (0 : Int32)) hx hb d_La_decimal_18 (by decide) ?_
    refine W.widen (k := 1) (n := 6) (by decide) (by decide) ?_
    obtain rfl := Option.some.inj hf
    exact mm_iret hx hb hr hlocks hK (mm_wsubT hw [1, 2, 0] (by decide) rfl) rfl d_La_decimal_19
  · rw [hT] at hf
    replace hf := mm_tS hf
    refine mm_cthrow (As := [.long us, .int sc]) (rest := [.int (0 : Int32), .ref h_out]) ⟨hx, hb, hml, hown, hts⟩ (t_DP_decimal_T l hst Zo Zt dC dI cC cI cJ cQ us sc h_x H.size hT) (cwV 2 hts (mm_gV q_772 q_773 q_774 q_54 q_775) rfl rfl rfl (by decide +kernel) ⟨Nat.le_of_ble_eq_true rfl, Nat.le_of_ble_eq_true rfl⟩) (mm_pvR Zo.1 hK hw hZ hA [] (by decide) rfl rfl (va_recv hK hw.1 (ci := 5) (q0 := 0) rfl rfl)) rfl hl.1 rfl (Nat.le_of_ble_eq_true rfl) d_La_decimal_6 ⟨Nat.le_of_ble_eq_true rfl, Nat.le_of_ble_eq_true rfl⟩ htb (by simp [covers, tb1, tb2]) (by rw [tb4]; decide) (by rw [tb4]; exact hts _ (List.mem_cons_of_mem _ q_653)) (fun ea H1 hz hk => ?_)
    have hw := mm_wkeep hw hz hk
    generalize H1 = H at hw ⊢
    rw [tb3]
    refine lv_astore (lv' := [(5, .ref ea), (0, .ref h_x), (1, .long us), (3, .int sc), (4, .ref h_out)]) hx hb d_La_decimal_14 hl (by decide) rfl (fun ls hl => ?_)
    refine lv_iconst (v := (1 : Int32)) hx hb d_La_decimal_16 (by decide) ?_
    refine W.widen (k := 1) (n := 6) (by decide) (by decide) ?_
    obtain rfl := Option.some.inj hf
    exact mm_iret hx hb hr hlocks hK (mm_wsubT hw [0, 1, 2] (by decide) rfl) rfl d_La_decimal_17
end
