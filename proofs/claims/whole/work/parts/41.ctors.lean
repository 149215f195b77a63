section
variable {p : Program} {l : Launch} {e : Env} {s : State} {m : MethodId} {args : Array Value} {below : List Frame} {meth : Method} {c : Code} {dC : Nat → ClassId} {dI : Nat → Nat → Nat} {cC cI cJ cQ : ClassId} {A : Nat → Prop} {Z : (Nat → Prop) → State → Heap → Prop} {ad adK adV : Nat → Nat}
abbrev b_Row_init : ByteArray := prog_7_method_1_code
abbrev y_Row_init : MethodName := ⟨"DirectivePrinter$Row", "<init>", "(I)V"⟩
def w_Row_init : List Cond := .code y_Row_init b_Row_init 2 none :: lw_g
theorem d_Row_init_0 : decode b_Row_init 0 = .ok (.aload_n 0, 1) := by decide +kernel
theorem d_Row_init_1 : decode b_Row_init 1 = .ok (.invokespecial 3, 3) := by decide +kernel
theorem d_Row_init_4 : decode b_Row_init 4 = .ok (.aload_n 0, 1) := by decide +kernel
theorem d_Row_init_5 : decode b_Row_init 5 = .ok (.iload_n 1, 1) := by decide +kernel
theorem d_Row_init_6 : decode b_Row_init 6 = .ok (.iconst 0, 1) := by decide +kernel
theorem d_Row_init_7 : decode b_Row_init 7 = .ok (.invokestatic 9, 3) := by decide +kernel
theorem d_Row_init_10 : decode b_Row_init 10 = .ok (.newarray .char, 2) := by decide +kernel
theorem d_Row_init_12 : decode b_Row_init 12 = .ok (.putfield 15, 3) := by decide +kernel
theorem d_Row_init_15 : decode b_Row_init 15 = .ok (.aload_n 0, 1) := by decide +kernel
theorem d_Row_init_16 : decode b_Row_init 16 = .ok (.iconst 0, 1) := by decide +kernel
theorem d_Row_init_17 : decode b_Row_init 17 = .ok (.putfield 21, 3) := by decide +kernel
theorem d_Row_init_20 : decode b_Row_init 20 = .ok (.return_, 1) := by decide +kernel
abbrev b_Figures_init : ByteArray := prog_5_method_1_code
abbrev y_Figures_init : MethodName := ⟨"DirectivePrinter$Figures", "<init>", "()V"⟩
def w_Figures_init : List Cond := .code y_Figures_init b_Figures_init 1 none :: lw_g
theorem d_Figures_init_0 : decode b_Figures_init 0 = .ok (.aload_n 0, 1) := by decide +kernel
theorem d_Figures_init_1 : decode b_Figures_init 1 = .ok (.invokespecial 1, 3) := by decide +kernel
theorem d_Figures_init_4 : decode b_Figures_init 4 = .ok (.aload_n 0, 1) := by decide +kernel
theorem d_Figures_init_5 : decode b_Figures_init 5 = .ok (.bipush 24, 2) := by decide +kernel
theorem d_Figures_init_7 : decode b_Figures_init 7 = .ok (.newarray .int, 2) := by decide +kernel
theorem d_Figures_init_9 : decode b_Figures_init 9 = .ok (.putfield 9, 3) := by decide +kernel
theorem d_Figures_init_12 : decode b_Figures_init 12 = .ok (.aload_n 0, 1) := by decide +kernel
theorem d_Figures_init_13 : decode b_Figures_init 13 = .ok (.iconst 0, 1) := by decide +kernel
theorem d_Figures_init_14 : decode b_Figures_init 14 = .ok (.putfield 13, 3) := by decide +kernel
theorem d_Figures_init_17 : decode b_Figures_init 17 = .ok (.aload_n 0, 1) := by decide +kernel
theorem d_Figures_init_18 : decode b_Figures_init 18 = .ok (.iconst 0, 1) := by decide +kernel
theorem d_Figures_init_19 : decode b_Figures_init 19 = .ok (.putfield 17, 3) := by decide +kernel
theorem d_Figures_init_22 : decode b_Figures_init 22 = .ok (.return_, 1) := by decide +kernel
abbrev b_Directive_init : ByteArray := prog_4_method_1_code
abbrev y_Directive_init : MethodName := ⟨"DirectivePrinter$Directive", "<init>", "()V"⟩
def w_Directive_init : List Cond := .code y_Directive_init b_Directive_init 1 none :: lw_g
theorem d_Directive_init_0 : decode b_Directive_init 0 = .ok (.aload_n 0, 1) := by decide +kernel
theorem d_Directive_init_1 : decode b_Directive_init 1 = .ok (.invokespecial 3, 3) := by decide +kernel
theorem d_Directive_init_4 : decode b_Directive_init 4 = .ok (.aload_n 0, 1) := by decide +kernel
theorem d_Directive_init_5 : decode b_Directive_init 5 = .ok (.iconst (-1), 1) := by decide +kernel
theorem d_Directive_init_6 : decode b_Directive_init 6 = .ok (.putfield 9, 3) := by decide +kernel
theorem d_Directive_init_9 : decode b_Directive_init 9 = .ok (.aload_n 0, 1) := by decide +kernel
theorem d_Directive_init_10 : decode b_Directive_init 10 = .ok (.iconst 0, 1) := by decide +kernel
theorem d_Directive_init_11 : decode b_Directive_init 11 = .ok (.putfield 15, 3) := by decide +kernel
theorem d_Directive_init_14 : decode b_Directive_init 14 = .ok (.aload_n 0, 1) := by decide +kernel
theorem d_Directive_init_15 : decode b_Directive_init 15 = .ok (.iconst 0, 1) := by decide +kernel
theorem d_Directive_init_16 : decode b_Directive_init 16 = .ok (.putfield 18, 3) := by decide +kernel
theorem d_Directive_init_19 : decode b_Directive_init 19 = .ok (.aload_n 0, 1) := by decide +kernel
theorem d_Directive_init_20 : decode b_Directive_init 20 = .ok (.iconst (-1), 1) := by decide +kernel
theorem d_Directive_init_21 : decode b_Directive_init 21 = .ok (.putfield 22, 3) := by decide +kernel
theorem d_Directive_init_24 : decode b_Directive_init 24 = .ok (.aload_n 0, 1) := by decide +kernel
theorem d_Directive_init_25 : decode b_Directive_init 25 = .ok (.iconst (-1), 1) := by decide +kernel
theorem d_Directive_init_26 : decode b_Directive_init 26 = .ok (.putfield 25, 3) := by decide +kernel
theorem d_Directive_init_29 : decode b_Directive_init 29 = .ok (.aload_n 0, 1) := by decide +kernel
theorem d_Directive_init_30 : decode b_Directive_init 30 = .ok (.iconst (-1), 1) := by decide +kernel
theorem d_Directive_init_31 : decode b_Directive_init 31 = .ok (.putfield 28, 3) := by decide +kernel
theorem d_Directive_init_34 : decode b_Directive_init 34 = .ok (.aload_n 0, 1) := by decide +kernel
theorem d_Directive_init_35 : decode b_Directive_init 35 = .ok (.iconst 0, 1) := by decide +kernel
theorem d_Directive_init_36 : decode b_Directive_init 36 = .ok (.putfield 31, 3) := by decide +kernel
theorem d_Directive_init_39 : decode b_Directive_init 39 = .ok (.return_, 1) := by decide +kernel
abbrev b_Argument_init : ByteArray := prog_2_method_1_code
abbrev y_Argument_init : MethodName := ⟨"DirectivePrinter$Argument", "<init>", "()V"⟩
def w_Argument_init : List Cond := .code y_Argument_init b_Argument_init 1 none :: lw_g
theorem d_Argument_init_0 : decode b_Argument_init 0 = .ok (.aload_n 0, 1) := by decide +kernel
theorem d_Argument_init_1 : decode b_Argument_init 1 = .ok (.invokespecial 3, 3) := by decide +kernel
theorem d_Argument_init_4 : decode b_Argument_init 4 = .ok (.aload_n 0, 1) := by decide +kernel
theorem d_Argument_init_5 : decode b_Argument_init 5 = .ok (.getstatic 9, 3) := by decide +kernel
theorem d_Argument_init_8 : decode b_Argument_init 8 = .ok (.putfield 15, 3) := by decide +kernel
theorem d_Argument_init_11 : decode b_Argument_init 11 = .ok (.aload_n 0, 1) := by decide +kernel
theorem d_Argument_init_12 : decode b_Argument_init 12 = .ok (.lconst 0, 1) := by decide +kernel
theorem d_Argument_init_13 : decode b_Argument_init 13 = .ok (.putfield 20, 3) := by decide +kernel
theorem d_Argument_init_16 : decode b_Argument_init 16 = .ok (.aload_n 0, 1) := by decide +kernel
theorem d_Argument_init_17 : decode b_Argument_init 17 = .ok (.iconst 0, 1) := by decide +kernel
theorem d_Argument_init_18 : decode b_Argument_init 18 = .ok (.putfield 24, 3) := by decide +kernel
theorem d_Argument_init_21 : decode b_Argument_init 21 = .ok (.aload_n 0, 1) := by decide +kernel
theorem d_Argument_init_22 : decode b_Argument_init 22 = .ok (.new 28, 3) := by decide +kernel
theorem d_Argument_init_25 : decode b_Argument_init 25 = .ok (.dup, 1) := by decide +kernel
theorem d_Argument_init_26 : decode b_Argument_init 26 = .ok (.bipush 64, 2) := by decide +kernel
theorem d_Argument_init_28 : decode b_Argument_init 28 = .ok (.invokespecial 30, 3) := by decide +kernel
theorem d_Argument_init_31 : decode b_Argument_init 31 = .ok (.putfield 33, 3) := by decide +kernel
theorem d_Argument_init_34 : decode b_Argument_init 34 = .ok (.return_, 1) := by decide +kernel
abbrev b_Composer_init : ByteArray := prog_3_method_1_code
abbrev y_Composer_init : MethodName := ⟨"DirectivePrinter$Composer", "<init>", "()V"⟩
def w_Composer_init : List Cond := .code y_Composer_init b_Composer_init 1 none :: lw_g
theorem d_Composer_init_0 : decode b_Composer_init 0 = .ok (.aload_n 0, 1) := by decide +kernel
theorem d_Composer_init_1 : decode b_Composer_init 1 = .ok (.invokespecial 3, 3) := by decide +kernel
theorem d_Composer_init_4 : decode b_Composer_init 4 = .ok (.aload_n 0, 1) := by decide +kernel
theorem d_Composer_init_5 : decode b_Composer_init 5 = .ok (.new 9, 3) := by decide +kernel
theorem d_Composer_init_8 : decode b_Composer_init 8 = .ok (.dup, 1) := by decide +kernel
theorem d_Composer_init_9 : decode b_Composer_init 9 = .ok (.sipush 4096, 3) := by decide +kernel
theorem d_Composer_init_12 : decode b_Composer_init 12 = .ok (.invokespecial 11, 3) := by decide +kernel
theorem d_Composer_init_15 : decode b_Composer_init 15 = .ok (.putfield 14, 3) := by decide +kernel
theorem d_Composer_init_18 : decode b_Composer_init 18 = .ok (.aload_n 0, 1) := by decide +kernel
theorem d_Composer_init_19 : decode b_Composer_init 19 = .ok (.new 20, 3) := by decide +kernel
theorem d_Composer_init_22 : decode b_Composer_init 22 = .ok (.dup, 1) := by decide +kernel
theorem d_Composer_init_23 : decode b_Composer_init 23 = .ok (.invokespecial 22, 3) := by decide +kernel
theorem d_Composer_init_26 : decode b_Composer_init 26 = .ok (.putfield 23, 3) := by decide +kernel
theorem d_Composer_init_29 : decode b_Composer_init 29 = .ok (.aload_n 0, 1) := by decide +kernel
theorem d_Composer_init_30 : decode b_Composer_init 30 = .ok (.iconst 0, 1) := by decide +kernel
theorem d_Composer_init_31 : decode b_Composer_init 31 = .ok (.putfield 27, 3) := by decide +kernel
theorem d_Composer_init_34 : decode b_Composer_init 34 = .ok (.aload_n 0, 1) := by decide +kernel
theorem d_Composer_init_35 : decode b_Composer_init 35 = .ok (.iconst (-1), 1) := by decide +kernel
theorem d_Composer_init_36 : decode b_Composer_init 36 = .ok (.putfield 31, 3) := by decide +kernel
theorem d_Composer_init_39 : decode b_Composer_init 39 = .ok (.aload_n 0, 1) := by decide +kernel
theorem d_Composer_init_40 : decode b_Composer_init 40 = .ok (.iconst 0, 1) := by decide +kernel
theorem d_Composer_init_41 : decode b_Composer_init 41 = .ok (.putfield 34, 3) := by decide +kernel
theorem d_Composer_init_44 : decode b_Composer_init 44 = .ok (.aload_n 0, 1) := by decide +kernel
theorem d_Composer_init_45 : decode b_Composer_init 45 = .ok (.iconst 0, 1) := by decide +kernel
theorem d_Composer_init_46 : decode b_Composer_init 46 = .ok (.putfield 37, 3) := by decide +kernel
theorem d_Composer_init_49 : decode b_Composer_init 49 = .ok (.return_, 1) := by decide +kernel
set_option maxRecDepth 100000 in
theorem q_87 : (.methodLink "DirectivePrinter$Row" 3 ⟨"java/lang/Object", "<init>", "()V"⟩ : Cond) ∈ lw_g := List.mem_filter.mpr ⟨List.mem_of_getElem? (i := 87) (by decide +kernel), by decide +kernel⟩
set_option maxRecDepth 100000 in
theorem q_80 : (.instanceMethod ⟨"java/lang/Object", "<init>", "()V"⟩ : Cond) ∈ lw_g := List.mem_filter.mpr ⟨List.mem_of_getElem? (i := 80) (by decide +kernel), by decide +kernel⟩
set_option maxRecDepth 100000 in
theorem q_81 : (.code ⟨"java/lang/Object", "<init>", "()V"⟩ object_method_1_code 1 (Option.none : Option FieldType) : Cond) ∈ lw_g := List.mem_filter.mpr ⟨List.mem_of_getElem? (i := 81) (rfl), by decide +kernel⟩
set_option maxRecDepth 100000 in
theorem q_98 : (.arrayClass FieldType.char : Cond) ∈ lw_g := List.mem_filter.mpr ⟨List.mem_of_getElem? (i := 98) (by decide +kernel), by decide +kernel⟩
set_option maxRecDepth 100000 in
theorem q_175 : (.methodLink "DirectivePrinter$Figures" 1 ⟨"java/lang/Object", "<init>", "()V"⟩ : Cond) ∈ lw_g := List.mem_filter.mpr ⟨List.mem_of_getElem? (i := 175) (by decide +kernel), by decide +kernel⟩
set_option maxRecDepth 100000 in
theorem q_186 : (.arrayClass FieldType.int : Cond) ∈ lw_g := List.mem_filter.mpr ⟨List.mem_of_getElem? (i := 186) (by decide +kernel), by decide +kernel⟩
set_option maxRecDepth 100000 in
theorem q_136 : (.methodLink "DirectivePrinter$Directive" 3 ⟨"java/lang/Object", "<init>", "()V"⟩ : Cond) ∈ lw_g := List.mem_filter.mpr ⟨List.mem_of_getElem? (i := 136) (by decide +kernel), by decide +kernel⟩
set_option maxRecDepth 100000 in
theorem q_105 : (.methodLink "DirectivePrinter$Argument" 3 ⟨"java/lang/Object", "<init>", "()V"⟩ : Cond) ∈ lw_g := List.mem_filter.mpr ⟨List.mem_of_getElem? (i := 105) (by decide +kernel), by decide +kernel⟩
set_option maxRecDepth 100000 in
theorem q_108 : (.classLink "DirectivePrinter$Argument" 28 "DirectivePrinter$Row" : Cond) ∈ lw_g := List.mem_filter.mpr ⟨List.mem_of_getElem? (i := 108) (by decide +kernel), by decide +kernel⟩
set_option maxRecDepth 100000 in
theorem q_83 : (.instantiable "DirectivePrinter$Row" 2 : Cond) ∈ lw_g := List.mem_filter.mpr ⟨List.mem_of_getElem? (i := 83) (by decide +kernel), by decide +kernel⟩
set_option maxRecDepth 100000 in
theorem q_86 : (.code ⟨"DirectivePrinter$Row", "<init>", "(I)V"⟩ prog_7_method_1_code 2 (Option.none : Option FieldType) : Cond) ∈ lw_g := List.mem_filter.mpr ⟨List.mem_of_getElem? (i := 86) (rfl), by decide +kernel⟩
set_option maxRecDepth 100000 in
theorem q_109 : (.methodLink "DirectivePrinter$Argument" 30 ⟨"DirectivePrinter$Row", "<init>", "(I)V"⟩ : Cond) ∈ lw_g := List.mem_filter.mpr ⟨List.mem_of_getElem? (i := 109) (by decide +kernel), by decide +kernel⟩
set_option maxRecDepth 100000 in
theorem q_85 : (.instanceMethod ⟨"DirectivePrinter$Row", "<init>", "(I)V"⟩ : Cond) ∈ lw_g := List.mem_filter.mpr ⟨List.mem_of_getElem? (i := 85) (by decide +kernel), by decide +kernel⟩
set_option maxRecDepth 100000 in
theorem q_119 : (.fieldLink "DirectivePrinter$Argument" 33 "DirectivePrinter$Argument" "characters" "LDirectivePrinter$Row;" : Cond) ∈ lw_g := List.mem_filter.mpr ⟨List.mem_of_getElem? (i := 119) (by decide +kernel), by decide +kernel⟩
set_option maxRecDepth 100000 in
theorem q_167 : (.methodLink "DirectivePrinter$Composer" 3 ⟨"java/lang/Object", "<init>", "()V"⟩ : Cond) ∈ lw_g := List.mem_filter.mpr ⟨List.mem_of_getElem? (i := 167) (by decide +kernel), by decide +kernel⟩
set_option maxRecDepth 100000 in
theorem q_168 : (.classLink "DirectivePrinter$Composer" 9 "DirectivePrinter$Row" : Cond) ∈ lw_g := List.mem_filter.mpr ⟨List.mem_of_getElem? (i := 168) (by decide +kernel), by decide +kernel⟩
set_option maxRecDepth 100000 in
theorem q_169 : (.methodLink "DirectivePrinter$Composer" 11 ⟨"DirectivePrinter$Row", "<init>", "(I)V"⟩ : Cond) ∈ lw_g := List.mem_filter.mpr ⟨List.mem_of_getElem? (i := 169) (by decide +kernel), by decide +kernel⟩
set_option maxRecDepth 100000 in
theorem q_170 : (.classLink "DirectivePrinter$Composer" 20 "DirectivePrinter$Figures" : Cond) ∈ lw_g := List.mem_filter.mpr ⟨List.mem_of_getElem? (i := 170) (by decide +kernel), by decide +kernel⟩
set_option maxRecDepth 100000 in
theorem q_171 : (.instantiable "DirectivePrinter$Figures" 3 : Cond) ∈ lw_g := List.mem_filter.mpr ⟨List.mem_of_getElem? (i := 171) (by decide +kernel), by decide +kernel⟩
set_option maxRecDepth 100000 in
theorem q_174 : (.code ⟨"DirectivePrinter$Figures", "<init>", "()V"⟩ prog_5_method_1_code 1 (Option.none : Option FieldType) : Cond) ∈ lw_g := List.mem_filter.mpr ⟨List.mem_of_getElem? (i := 174) (rfl), by decide +kernel⟩
set_option maxRecDepth 100000 in
theorem q_172 : (.methodLink "DirectivePrinter$Composer" 22 ⟨"DirectivePrinter$Figures", "<init>", "()V"⟩ : Cond) ∈ lw_g := List.mem_filter.mpr ⟨List.mem_of_getElem? (i := 172) (by decide +kernel), by decide +kernel⟩
set_option maxRecDepth 100000 in
theorem q_173 : (.instanceMethod ⟨"DirectivePrinter$Figures", "<init>", "()V"⟩ : Cond) ∈ lw_g := List.mem_filter.mpr ⟨List.mem_of_getElem? (i := 173) (by decide +kernel), by decide +kernel⟩
/-! new DirectivePrinter$Row -/
abbrev r_Row_init_64 : Room := { frames := 1, cells := 1, slots := 64, locals := 14 }
abbrev P_Row_init_64 (cC cI cJ cQ : ClassId) (ad : Nat → Nat) (h_x : Nat) : va_W → Prop := (fun w => ∃ q_1 : Nat, w = [(h_x, .inr (0, [.ref q_1, .int (0 : Int32)])), (q_1, .inl (cC, 64, .inl (fun _ => (0 : Int32))))])
set_option maxHeartbeats 4000000 in
set_option maxRecDepth 100000 in
theorem c_Row_init_64 (l : Launch) {Z : (Nat → Prop) → State → Heap → Prop} {ad adK adV : Nat → Nat} (Zo : mm_Zx Z ad adK adV) (dC : Nat → ClassId) (dI : Nat → Nat → Nat) (cC cI cJ cQ : ClassId) (h_x : Nat) (sz : Nat) : Met l y_Row_init w_Row_init r_Row_init_64 (mm_pre (dC, dI) vwC (tyl cC cI cJ cQ) Z [(h_x, .inr (0, [.null, .int (0 : Int32)]))] sz [.ref h_x, .int (64 : Int32)]) (mm_qn (dC, dI) vwC (tyl cC cI cJ cQ) (va_A [(h_x, .inr (0, [.null, .int (0 : Int32)]))] sz) (P_Row_init_64 cC cI cJ cQ ad h_x)) 1 64 (va_A [(h_x, .inr (0, [.null, .int (0 : Int32)]))] sz) := by
  refine mm_of (own := "DirectivePrinter$Row") (cc := b_Row_init) (maxL := 2) (ret := none) (by decide) rfl rfl ?_
  intro p e s m below meth c hsz C0 hw hname
  generalize (va_A [(h_x, .inr (0, [.null, .int (0 : Int32)]))] sz) = A at C0 hw ⊢
  have hl := lv_entry ([.ref h_x, .int (64 : Int32)]) (n := 2) (Nat.le_of_ble_eq_true rfl)
  rw [lg_entry_eq]
  generalize (lg_sl ([.ref h_x, .int (64 : Int32)]) ++ List.replicate (2 - (lg_sl ([.ref h_x, .int (64 : Int32)])).length) Slot.unset).toArray = ls at hl ⊢
  have hl : lv_has ls 2 [(0, .ref h_x), (1, .int (64 : Int32))] := hl
  obtain ⟨hx, hb, hr, hml, hown, hts, hlocks, hK, hZ, hA⟩ := id C0
  generalize s.heap = H at hw ⊢
  refine lv_aload_n hx hb d_Row_init_0 rfl (lv_at hl 0 rfl) ?_
  refine W.objInit hx hb hown (hts _ (List.mem_cons_of_mem _ q_87)) (hts _ (List.mem_cons_of_mem _ q_80)) (hts _ (List.mem_cons_of_mem _ q_81)) rfl (by rw [hml]; exact hl.1) rfl d_Row_init_1 (Nat.le_of_ble_eq_true rfl) (Nat.le_of_ble_eq_true rfl) ?_
  refine W.eq (g2 := F0 m 4 ls []) rfl ?_
  refine lv_aload_n hx hb d_Row_init_4 rfl (lv_at hl 0 rfl) ?_
  refine lv_iload_n hx hb d_Row_init_5 rfl (lv_at hl 1 rfl) ?_
  refine lv_iconst (v := (0 : Int32)) hx hb d_Row_init_6 (by decide) ?_
  refine va_mmax hx hb (hml.trans hl.1.symm) hown (hts _ (List.mem_cons_of_mem _ q_88)) (hts _ (List.mem_cons_of_mem _ q_89)) (hts _ (List.mem_cons_of_mem _ q_56)) (hts _ (List.mem_cons_of_mem _ q_90)) (Nat.le_of_ble_eq_true rfl) (Nat.le_of_ble_eq_true rfl) (Nat.zero_le _) (Nat.zero_le _) d_Row_init_7 ?_
  refine W.eq (g2 := F0 m 10 ls [.int (64 : Int32), .ref h_x]) (by rfl) ?_
  refine va_newa (atype := .char) (ty := .char) (a0 := (64, .inl (fun _ => (0 : Int32)))) (N' := 64) hx hb (hts _ (List.mem_cons_of_mem _ q_98)) rfl hK hw.1 hw.2.1 hw.2.2 hA (fun cA => mm_arrC cA 64) (by decide) (by decide) (by decide) (Nat.le_of_ble_eq_true rfl) (Nat.le_of_ble_eq_true rfl) d_Row_init_10 (fun q_1 cA H hK9 hP hD hS => ?_)
  rw [mm_cA hK9 4 0 rfl rfl] at hP hD
  have hw : mm_w (dC, dI) vwC A s [(h_x, .inr (0, [.null, .int (0 : Int32)])), (q_1, .inl (cC, 64, .inl (fun _ => (0 : Int32))))] H _ := ⟨hP, hD, hS⟩
  refine va_putF (D := (dC, dI)) (ci := 0) (v := .ref q_1) (ty := (.array .char)) (C := "DirectivePrinter$Row") (T := T_Row) (N := 2) hx hb hts (mm_up i_Row) t_Row t_Row_ok n_Row hown hK hw.1 hw.2.1 hw.2.2 0 rfl rfl 0 (by decide) (hts _ (List.mem_cons_of_mem _ q_91)) (fun _ h9 => h9) rfl hname rfl (by decide +kernel) rfl rfl (Nat.le_of_ble_eq_true rfl) d_Row_init_12 (fun H locs hP hD hS => ?_)
  have hw : mm_w (dC, dI) vwC A s [(h_x, .inr (0, [.ref q_1, .int (0 : Int32)])), (q_1, .inl (cC, 64, .inl (fun _ => (0 : Int32))))] H locs := ⟨hP, hD, hS⟩
  refine lv_aload_n hx hb d_Row_init_15 rfl (lv_at hl 0 rfl) ?_
  refine lv_iconst (v := (0 : Int32)) hx hb d_Row_init_16 (by decide) ?_
  refine va_put (D := (dC, dI)) (ci := 0) (v := .int (0 : Int32)) (ty := .int) (C := "DirectivePrinter$Row") (T := T_Row) (N := 2) hx hb hts (mm_up i_Row) t_Row t_Row_ok n_Row hown hK hw.1 hw.2.1 hw.2.2 0 rfl rfl 1 (by decide) (hts _ (List.mem_cons_of_mem _ q_92)) (fun _ h9 => h9) rfl (by decide +kernel) rfl rfl (Nat.le_of_ble_eq_true rfl) d_Row_init_17 (fun H locs hP hD hS => ?_)
  have hw : mm_w (dC, dI) vwC A s [(h_x, .inr (0, [.ref q_1, .int (0 : Int32)])), (q_1, .inl (cC, 64, .inl (fun _ => (0 : Int32))))] H locs := ⟨hP, hD, hS⟩
  exact mm_nret hx hb hr hlocks hK hw ⟨q_1, rfl⟩ d_Row_init_20
/-! new DirectivePrinter$Row -/
abbrev r_Row_init_256 : Room := { frames := 1, cells := 1, slots := 256, locals := 14 }
abbrev P_Row_init_256 (cC cI cJ cQ : ClassId) (ad : Nat → Nat) (h_x : Nat) : va_W → Prop := (fun w => ∃ q_1 : Nat, w = [(h_x, .inr (0, [.ref q_1, .int (0 : Int32)])), (q_1, .inl (cC, 256, .inl (fun _ => (0 : Int32))))])
set_option maxHeartbeats 4000000 in
set_option maxRecDepth 100000 in
theorem c_Row_init_256 (l : Launch) {Z : (Nat → Prop) → State → Heap → Prop} {ad adK adV : Nat → Nat} (Zo : mm_Zx Z ad adK adV) (dC : Nat → ClassId) (dI : Nat → Nat → Nat) (cC cI cJ cQ : ClassId) (h_x : Nat) (sz : Nat) : Met l y_Row_init w_Row_init r_Row_init_256 (mm_pre (dC, dI) vwC (tyl cC cI cJ cQ) Z [(h_x, .inr (0, [.null, .int (0 : Int32)]))] sz [.ref h_x, .int (256 : Int32)]) (mm_qn (dC, dI) vwC (tyl cC cI cJ cQ) (va_A [(h_x, .inr (0, [.null, .int (0 : Int32)]))] sz) (P_Row_init_256 cC cI cJ cQ ad h_x)) 1 256 (va_A [(h_x, .inr (0, [.null, .int (0 : Int32)]))] sz) := by
  refine mm_of (own := "DirectivePrinter$Row") (cc := b_Row_init) (maxL := 2) (ret := none) (by decide) rfl rfl ?_
  intro p e s m below meth c hsz C0 hw hname
  generalize (va_A [(h_x, .inr (0, [.null, .int (0 : Int32)]))] sz) = A at C0 hw ⊢
  have hl := lv_entry ([.ref h_x, .int (256 : Int32)]) (n := 2) (Nat.le_of_ble_eq_true rfl)
  rw [lg_entry_eq]
  generalize (lg_sl ([.ref h_x, .int (256 : Int32)]) ++ List.replicate (2 - (lg_sl ([.ref h_x, .int (256 : Int32)])).length) Slot.unset).toArray = ls at hl ⊢
  have hl : lv_has ls 2 [(0, .ref h_x), (1, .int (256 : Int32))] := hl
  obtain ⟨hx, hb, hr, hml, hown, hts, hlocks, hK, hZ, hA⟩ := id C0
  generalize s.heap = H at hw ⊢
  refine lv_aload_n hx hb d_Row_init_0 rfl (lv_at hl 0 rfl) ?_
  refine W.objInit hx hb hown (hts _ (List.mem_cons_of_mem _ q_87)) (hts _ (List.mem_cons_of_mem _ q_80)) (hts _ (List.mem_cons_of_mem _ q_81)) rfl (by rw [hml]; exact hl.1) rfl d_Row_init_1 (Nat.le_of_ble_eq_true rfl) (Nat.le_of_ble_eq_true rfl) ?_
  refine W.eq (g2 := F0 m 4 ls []) rfl ?_
  refine lv_aload_n hx hb d_Row_init_4 rfl (lv_at hl 0 rfl) ?_
  refine lv_iload_n hx hb d_Row_init_5 rfl (lv_at hl 1 rfl) ?_
  refine lv_iconst (v := (0 : Int32)) hx hb d_Row_init_6 (by decide) ?_
  refine va_mmax hx hb (hml.trans hl.1.symm) hown (hts _ (List.mem_cons_of_mem _ q_88)) (hts _ (List.mem_cons_of_mem _ q_89)) (hts _ (List.mem_cons_of_mem _ q_56)) (hts _ (List.mem_cons_of_mem _ q_90)) (Nat.le_of_ble_eq_true rfl) (Nat.le_of_ble_eq_true rfl) (Nat.zero_le _) (Nat.zero_le _) d_Row_init_7 ?_
  refine W.eq (g2 := F0 m 10 ls [.int (256 : Int32), .ref h_x]) (by rfl) ?_
  refine va_newa (atype := .char) (ty := .char) (a0 := (256, .inl (fun _ => (0 : Int32)))) (N' := 256) hx hb (hts _ (List.mem_cons_of_mem _ q_98)) rfl hK hw.1 hw.2.1 hw.2.2 hA (fun cA => mm_arrC cA 256) (by decide) (by decide) (by decide) (Nat.le_of_ble_eq_true rfl) (Nat.le_of_ble_eq_true rfl) d_Row_init_10 (fun q_1 cA H hK9 hP hD hS => ?_)
  rw [mm_cA hK9 4 0 rfl rfl] at hP hD
  have hw : mm_w (dC, dI) vwC A s [(h_x, .inr (0, [.null, .int (0 : Int32)])), (q_1, .inl (cC, 256, .inl (fun _ => (0 : Int32))))] H _ := ⟨hP, hD, hS⟩
  refine va_putF (D := (dC, dI)) (ci := 0) (v := .ref q_1) (ty := (.array .char)) (C := "DirectivePrinter$Row") (T := T_Row) (N := 2) hx hb hts (mm_up i_Row) t_Row t_Row_ok n_Row hown hK hw.1 hw.2.1 hw.2.2 0 rfl rfl 0 (by decide) (hts _ (List.mem_cons_of_mem _ q_91)) (fun _ h9 => h9) rfl hname rfl (by decide +kernel) rfl rfl (Nat.le_of_ble_eq_true rfl) d_Row_init_12 (fun H locs hP hD hS => ?_)
  have hw : mm_w (dC, dI) vwC A s [(h_x, .inr (0, [.ref q_1, .int (0 : Int32)])), (q_1, .inl (cC, 256, .inl (fun _ => (0 : Int32))))] H locs := ⟨hP, hD, hS⟩
  refine lv_aload_n hx hb d_Row_init_15 rfl (lv_at hl 0 rfl) ?_
  refine lv_iconst (v := (0 : Int32)) hx hb d_Row_init_16 (by decide) ?_
  refine va_put (D := (dC, dI)) (ci := 0) (v := .int (0 : Int32)) (ty := .int) (C := "DirectivePrinter$Row") (T := T_Row) (N := 2) hx hb hts (mm_up i_Row) t_Row t_Row_ok n_Row hown hK hw.1 hw.2.1 hw.2.2 0 rfl rfl 1 (by decide) (hts _ (List.mem_cons_of_mem _ q_92)) (fun _ h9 => h9) rfl (by decide +kernel) rfl rfl (Nat.le_of_ble_eq_true rfl) d_Row_init_17 (fun H locs hP hD hS => ?_)
  have hw : mm_w (dC, dI) vwC A s [(h_x, .inr (0, [.ref q_1, .int (0 : Int32)])), (q_1, .inl (cC, 256, .inl (fun _ => (0 : Int32))))] H locs := ⟨hP, hD, hS⟩
  exact mm_nret hx hb hr hlocks hK hw ⟨q_1, rfl⟩ d_Row_init_20
/-! new DirectivePrinter$Row -/
abbrev r_Row_init_4096 : Room := { frames := 1, cells := 1, slots := 4096, locals := 14 }
abbrev P_Row_init_4096 (cC cI cJ cQ : ClassId) (ad : Nat → Nat) (h_x : Nat) : va_W → Prop := (fun w => ∃ q_1 : Nat, w = [(h_x, .inr (0, [.ref q_1, .int (0 : Int32)])), (q_1, .inl (cC, 4096, .inl (fun _ => (0 : Int32))))])
set_option maxHeartbeats 4000000 in
set_option maxRecDepth 100000 in
theorem c_Row_init_4096 (l : Launch) {Z : (Nat → Prop) → State → Heap → Prop} {ad adK adV : Nat → Nat} (Zo : mm_Zx Z ad adK adV) (dC : Nat → ClassId) (dI : Nat → Nat → Nat) (cC cI cJ cQ : ClassId) (h_x : Nat) (sz : Nat) : Met l y_Row_init w_Row_init r_Row_init_4096 (mm_pre (dC, dI) vwC (tyl cC cI cJ cQ) Z [(h_x, .inr (0, [.null, .int (0 : Int32)]))] sz [.ref h_x, .int (4096 : Int32)]) (mm_qn (dC, dI) vwC (tyl cC cI cJ cQ) (va_A [(h_x, .inr (0, [.null, .int (0 : Int32)]))] sz) (P_Row_init_4096 cC cI cJ cQ ad h_x)) 1 4096 (va_A [(h_x, .inr (0, [.null, .int (0 : Int32)]))] sz) := by
  refine mm_of (own := "DirectivePrinter$Row") (cc := b_Row_init) (maxL := 2) (ret := none) (by decide) rfl rfl ?_
  intro p e s m below meth c hsz C0 hw hname
  generalize (va_A [(h_x, .inr (0, [.null, .int (0 : Int32)]))] sz) = A at C0 hw ⊢
  have hl := lv_entry ([.ref h_x, .int (4096 : Int32)]) (n := 2) (Nat.le_of_ble_eq_true rfl)
  rw [lg_entry_eq]
  generalize (lg_sl ([.ref h_x, .int (4096 : Int32)]) ++ List.replicate (2 - (lg_sl ([.ref h_x, .int (4096 : Int32)])).length) Slot.unset).toArray = ls at hl ⊢
  have hl : lv_has ls 2 [(0, .ref h_x), (1, .int (4096 : Int32))] := hl
  obtain ⟨hx, hb, hr, hml, hown, hts, hlocks, hK, hZ, hA⟩ := id C0
  generalize s.heap = H at hw ⊢
  refine lv_aload_n hx hb d_Row_init_0 rfl (lv_at hl 0 rfl) ?_
  refine W.objInit hx hb hown (hts _ (List.mem_cons_of_mem _ q_87)) (hts _ (List.mem_cons_of_mem _ q_80)) (hts _ (List.mem_cons_of_mem _ q_81)) rfl (by rw [hml]; exact hl.1) rfl d_Row_init_1 (Nat.le_of_ble_eq_true rfl) (Nat.le_of_ble_eq_true rfl) ?_
  refine W.eq (g2 := F0 m 4 ls []) rfl ?_
  refine lv_aload_n hx hb d_Row_init_4 rfl (lv_at hl 0 rfl) ?_
  refine lv_iload_n hx hb d_Row_init_5 rfl (lv_at hl 1 rfl) ?_
  refine lv_iconst (v := (0 : Int32)) hx hb d_Row_init_6 (by decide) ?_
  refine va_mmax hx hb (hml.trans hl.1.symm) hown (hts _ (List.mem_cons_of_mem _ q_88)) (hts _ (List.mem_cons_of_mem _ q_89)) (hts _ (List.mem_cons_of_mem _ q_56)) (hts _ (List.mem_cons_of_mem _ q_90)) (Nat.le_of_ble_eq_true rfl) (Nat.le_of_ble_eq_true rfl) (Nat.zero_le _) (Nat.zero_le _) d_Row_init_7 ?_
  refine W.eq (g2 := F0 m 10 ls [.int (4096 : Int32), .ref h_x]) (by rfl) ?_
  refine va_newa (atype := .char) (ty := .char) (a0 := (4096, .inl (fun _ => (0 : Int32)))) (N' := 4096) hx hb (hts _ (List.mem_cons_of_mem _ q_98)) rfl hK hw.1 hw.2.1 hw.2.2 hA (fun cA => mm_arrC cA 4096) (by decide) (by decide) (by decide) (Nat.le_of_ble_eq_true rfl) (Nat.le_of_ble_eq_true rfl) d_Row_init_10 (fun q_1 cA H hK9 hP hD hS => ?_)
  rw [mm_cA hK9 4 0 rfl rfl] at hP hD
  have hw : mm_w (dC, dI) vwC A s [(h_x, .inr (0, [.null, .int (0 : Int32)])), (q_1, .inl (cC, 4096, .inl (fun _ => (0 : Int32))))] H _ := ⟨hP, hD, hS⟩
  refine va_putF (D := (dC, dI)) (ci := 0) (v := .ref q_1) (ty := (.array .char)) (C := "DirectivePrinter$Row") (T := T_Row) (N := 2) hx hb hts (mm_up i_Row) t_Row t_Row_ok n_Row hown hK hw.1 hw.2.1 hw.2.2 0 rfl rfl 0 (by decide) (hts _ (List.mem_cons_of_mem _ q_91)) (fun _ h9 => h9) rfl hname rfl (by decide +kernel) rfl rfl (Nat.le_of_ble_eq_true rfl) d_Row_init_12 (fun H locs hP hD hS => ?_)
  have hw : mm_w (dC, dI) vwC A s [(h_x, .inr (0, [.ref q_1, .int (0 : Int32)])), (q_1, .inl (cC, 4096, .inl (fun _ => (0 : Int32))))] H locs := ⟨hP, hD, hS⟩
  refine lv_aload_n hx hb d_Row_init_15 rfl (lv_at hl 0 rfl) ?_
  refine lv_iconst (v := (0 : Int32)) hx hb d_Row_init_16 (by decide) ?_
  refine va_put (D := (dC, dI)) (ci := 0) (v := .int (0 : Int32)) (ty := .int) (C := "DirectivePrinter$Row") (T := T_Row) (N := 2) hx hb hts (mm_up i_Row) t_Row t_Row_ok n_Row hown hK hw.1 hw.2.1 hw.2.2 0 rfl rfl 1 (by decide) (hts _ (List.mem_cons_of_mem _ q_92)) (fun _ h9 => h9) rfl (by decide +kernel) rfl rfl (Nat.le_of_ble_eq_true rfl) d_Row_init_17 (fun H locs hP hD hS => ?_)
  have hw : mm_w (dC, dI) vwC A s [(h_x, .inr (0, [.ref q_1, .int (0 : Int32)])), (q_1, .inl (cC, 4096, .inl (fun _ => (0 : Int32))))] H locs := ⟨hP, hD, hS⟩
  exact mm_nret hx hb hr hlocks hK hw ⟨q_1, rfl⟩ d_Row_init_20
/-! new DirectivePrinter$Figures -/
abbrev r_Figures_init : Room := { frames := 1, cells := 1, slots := 24, locals := 12 }
abbrev P_Figures_init (cC cI cJ cQ : ClassId) (ad : Nat → Nat) (h_x : Nat) : va_W → Prop := (fun w => ∃ q_1 : Nat, w = [(h_x, .inr (1, [.ref q_1, .int (0 : Int32), .int (0 : Int32)])), (q_1, .inl (cI, 24, .inl (fun _ => (0 : Int32))))])
set_option maxHeartbeats 4000000 in
set_option maxRecDepth 100000 in
theorem c_Figures_init (l : Launch) {Z : (Nat → Prop) → State → Heap → Prop} {ad adK adV : Nat → Nat} (Zo : mm_Zx Z ad adK adV) (dC : Nat → ClassId) (dI : Nat → Nat → Nat) (cC cI cJ cQ : ClassId) (h_x : Nat) (sz : Nat) : Met l y_Figures_init w_Figures_init r_Figures_init (mm_pre (dC, dI) vwC (tyl cC cI cJ cQ) Z [(h_x, .inr (1, [.null, .int (0 : Int32), .int (0 : Int32)]))] sz [.ref h_x]) (mm_qn (dC, dI) vwC (tyl cC cI cJ cQ) (va_A [(h_x, .inr (1, [.null, .int (0 : Int32), .int (0 : Int32)]))] sz) (P_Figures_init cC cI cJ cQ ad h_x)) 1 24 (va_A [(h_x, .inr (1, [.null, .int (0 : Int32), .int (0 : Int32)]))] sz) := by
  refine mm_of (own := "DirectivePrinter$Figures") (cc := b_Figures_init) (maxL := 1) (ret := none) (by decide) rfl rfl ?_
  intro p e s m below meth c hsz C0 hw hname
  generalize (va_A [(h_x, .inr (1, [.null, .int (0 : Int32), .int (0 : Int32)]))] sz) = A at C0 hw ⊢
  have hl := lv_entry ([.ref h_x]) (n := 1) (Nat.le_of_ble_eq_true rfl)
  rw [lg_entry_eq]
  generalize (lg_sl ([.ref h_x]) ++ List.replicate (1 - (lg_sl ([.ref h_x])).length) Slot.unset).toArray = ls at hl ⊢
  have hl : lv_has ls 1 [(0, .ref h_x)] := hl
  obtain ⟨hx, hb, hr, hml, hown, hts, hlocks, hK, hZ, hA⟩ := id C0
  generalize s.heap = H at hw ⊢
  refine lv_aload_n hx hb d_Figures_init_0 rfl (lv_at hl 0 rfl) ?_
  refine W.objInit hx hb hown (hts _ (List.mem_cons_of_mem _ q_175)) (hts _ (List.mem_cons_of_mem _ q_80)) (hts _ (List.mem_cons_of_mem _ q_81)) rfl (by rw [hml]; exact hl.1) rfl d_Figures_init_1 (Nat.le_of_ble_eq_true rfl) (Nat.le_of_ble_eq_true rfl) ?_
  refine W.eq (g2 := F0 m 4 ls []) rfl ?_
  refine lv_aload_n hx hb d_Figures_init_4 rfl (lv_at hl 0 rfl) ?_
  refine lv_bipush (v := (24 : Int32)) hx hb d_Figures_init_5 (by decide) ?_
  refine va_newa (atype := .int) (ty := .int) (a0 := (24, .inl (fun _ => (0 : Int32)))) (N' := 24) hx hb (hts _ (List.mem_cons_of_mem _ q_186)) rfl hK hw.1 hw.2.1 hw.2.2 hA (fun cA => mm_arrI cA 24) (by decide) (by decide) (by decide) (Nat.le_of_ble_eq_true rfl) (Nat.le_of_ble_eq_true rfl) d_Figures_init_7 (fun q_1 cA H hK9 hP hD hS => ?_)
  rw [mm_cA hK9 4 1 rfl rfl] at hP hD
  have hw : mm_w (dC, dI) vwC A s [(h_x, .inr (1, [.null, .int (0 : Int32), .int (0 : Int32)])), (q_1, .inl (cI, 24, .inl (fun _ => (0 : Int32))))] H _ := ⟨hP, hD, hS⟩
  refine va_putF (D := (dC, dI)) (ci := 1) (v := .ref q_1) (ty := (.array .int)) (C := "DirectivePrinter$Figures") (T := T_Figures) (N := 3) hx hb hts (mm_up i_Figures) t_Figures t_Figures_ok n_Figures hown hK hw.1 hw.2.1 hw.2.2 0 rfl rfl 0 (by decide) (hts _ (List.mem_cons_of_mem _ q_176)) (fun _ h9 => h9) rfl hname rfl (by decide +kernel) rfl rfl (Nat.le_of_ble_eq_true rfl) d_Figures_init_9 (fun H locs hP hD hS => ?_)
  have hw : mm_w (dC, dI) vwC A s [(h_x, .inr (1, [.ref q_1, .int (0 : Int32), .int (0 : Int32)])), (q_1, .inl (cI, 24, .inl (fun _ => (0 : Int32))))] H locs := ⟨hP, hD, hS⟩
  refine lv_aload_n hx hb d_Figures_init_12 rfl (lv_at hl 0 rfl) ?_
  refine lv_iconst (v := (0 : Int32)) hx hb d_Figures_init_13 (by decide) ?_
  refine va_put (D := (dC, dI)) (ci := 1) (v := .int (0 : Int32)) (ty := .int) (C := "DirectivePrinter$Figures") (T := T_Figures) (N := 3) hx hb hts (mm_up i_Figures) t_Figures t_Figures_ok n_Figures hown hK hw.1 hw.2.1 hw.2.2 0 rfl rfl 1 (by decide) (hts _ (List.mem_cons_of_mem _ q_177)) (fun _ h9 => h9) rfl (by decide +kernel) rfl rfl (Nat.le_of_ble_eq_true rfl) d_Figures_init_14 (fun H locs hP hD hS => ?_)
  have hw : mm_w (dC, dI) vwC A s [(h_x, .inr (1, [.ref q_1, .int (0 : Int32), .int (0 : Int32)])), (q_1, .inl (cI, 24, .inl (fun _ => (0 : Int32))))] H locs := ⟨hP, hD, hS⟩
  refine lv_aload_n hx hb d_Figures_init_17 rfl (lv_at hl 0 rfl) ?_
  refine lv_iconst (v := (0 : Int32)) hx hb d_Figures_init_18 (by decide) ?_
  refine va_put (D := (dC, dI)) (ci := 1) (v := .int (0 : Int32)) (ty := .int) (C := "DirectivePrinter$Figures") (T := T_Figures) (N := 3) hx hb hts (mm_up i_Figures) t_Figures t_Figures_ok n_Figures hown hK hw.1 hw.2.1 hw.2.2 0 rfl rfl 2 (by decide) (hts _ (List.mem_cons_of_mem _ q_178)) (fun _ h9 => h9) rfl (by decide +kernel) rfl rfl (Nat.le_of_ble_eq_true rfl) d_Figures_init_19 (fun H locs hP hD hS => ?_)
  have hw : mm_w (dC, dI) vwC A s [(h_x, .inr (1, [.ref q_1, .int (0 : Int32), .int (0 : Int32)])), (q_1, .inl (cI, 24, .inl (fun _ => (0 : Int32))))] H locs := ⟨hP, hD, hS⟩
  exact mm_nret hx hb hr hlocks hK hw ⟨q_1, rfl⟩ d_Figures_init_22
/-! new DirectivePrinter$Directive -/
abbrev r_Directive_init : Room := { frames := 1, cells := 0, slots := 0, locals := 12 }
abbrev P_Directive_init (cC cI cJ cQ : ClassId) (ad : Nat → Nat) (h_x : Nat) : va_W → Prop := (fun w => w = [(h_x, .inr (2, [.int (-1 : Int32), .int (0 : Int32), .int (0 : Int32), .int (-1 : Int32), .int (-1 : Int32), .int (-1 : Int32), .int (0 : Int32)]))])
set_option maxHeartbeats 4000000 in
set_option maxRecDepth 100000 in
theorem c_Directive_init (l : Launch) {Z : (Nat → Prop) → State → Heap → Prop} {ad adK adV : Nat → Nat} (Zo : mm_Zx Z ad adK adV) (dC : Nat → ClassId) (dI : Nat → Nat → Nat) (cC cI cJ cQ : ClassId) (h_x : Nat) (sz : Nat) : Met l y_Directive_init w_Directive_init r_Directive_init (mm_pre (dC, dI) vwC (tyl cC cI cJ cQ) Z [(h_x, .inr (2, [.int (0 : Int32), .int (0 : Int32), .int (0 : Int32), .int (0 : Int32), .int (0 : Int32), .int (0 : Int32), .int (0 : Int32)]))] sz [.ref h_x]) (mm_qn (dC, dI) vwC (tyl cC cI cJ cQ) (va_A [(h_x, .inr (2, [.int (0 : Int32), .int (0 : Int32), .int (0 : Int32), .int (0 : Int32), .int (0 : Int32), .int (0 : Int32), .int (0 : Int32)]))] sz) (P_Directive_init cC cI cJ cQ ad h_x)) 0 0 (va_A [(h_x, .inr (2, [.int (0 : Int32), .int (0 : Int32), .int (0 : Int32), .int (0 : Int32), .int (0 : Int32), .int (0 : Int32), .int (0 : Int32)]))] sz) := by
  refine mm_of (own := "DirectivePrinter$Directive") (cc := b_Directive_init) (maxL := 1) (ret := none) (by decide) rfl rfl ?_
  intro p e s m below meth c hsz C0 hw hname
  generalize (va_A [(h_x, .inr (2, [.int (0 : Int32), .int (0 : Int32), .int (0 : Int32), .int (0 : Int32), .int (0 : Int32), .int (0 : Int32), .int (0 : Int32)]))] sz) = A at C0 hw ⊢
  have hl := lv_entry ([.ref h_x]) (n := 1) (Nat.le_of_ble_eq_true rfl)
  rw [lg_entry_eq]
  generalize (lg_sl ([.ref h_x]) ++ List.replicate (1 - (lg_sl ([.ref h_x])).length) Slot.unset).toArray = ls at hl ⊢
  have hl : lv_has ls 1 [(0, .ref h_x)] := hl
  obtain ⟨hx, hb, hr, hml, hown, hts, hlocks, hK, hZ, hA⟩ := id C0
  generalize s.heap = H at hw ⊢
  refine lv_aload_n hx hb d_Directive_init_0 rfl (lv_at hl 0 rfl) ?_
  refine W.objInit hx hb hown (hts _ (List.mem_cons_of_mem _ q_136)) (hts _ (List.mem_cons_of_mem _ q_80)) (hts _ (List.mem_cons_of_mem _ q_81)) rfl (by rw [hml]; exact hl.1) rfl d_Directive_init_1 (Nat.le_of_ble_eq_true rfl) (Nat.le_of_ble_eq_true rfl) ?_
  refine W.eq (g2 := F0 m 4 ls []) rfl ?_
  refine lv_aload_n hx hb d_Directive_init_4 rfl (lv_at hl 0 rfl) ?_
  refine lv_iconst (v := (-1 : Int32)) hx hb d_Directive_init_5 (by decide) ?_
  refine va_put (D := (dC, dI)) (ci := 2) (v := .int (-1 : Int32)) (ty := .int) (C := "DirectivePrinter$Directive") (T := T_Directive) (N := 7) hx hb hts (mm_up i_Directive) t_Directive t_Directive_ok n_Directive hown hK hw.1 hw.2.1 hw.2.2 0 rfl rfl 0 (by decide) (hts _ (List.mem_cons_of_mem _ q_137)) (fun _ h9 => h9) rfl (by decide +kernel) rfl rfl (Nat.le_of_ble_eq_true rfl) d_Directive_init_6 (fun H locs hP hD hS => ?_)
  have hw : mm_w (dC, dI) vwC A s [(h_x, .inr (2, [.int (-1 : Int32), .int (0 : Int32), .int (0 : Int32), .int (0 : Int32), .int (0 : Int32), .int (0 : Int32), .int (0 : Int32)]))] H locs := ⟨hP, hD, hS⟩
  refine lv_aload_n hx hb d_Directive_init_9 rfl (lv_at hl 0 rfl) ?_
  refine lv_iconst (v := (0 : Int32)) hx hb d_Directive_init_10 (by decide) ?_
  refine va_put (D := (dC, dI)) (ci := 2) (v := .int (0 : Int32)) (ty := .int) (C := "DirectivePrinter$Directive") (T := T_Directive) (N := 7) hx hb hts (mm_up i_Directive) t_Directive t_Directive_ok n_Directive hown hK hw.1 hw.2.1 hw.2.2 0 rfl rfl 1 (by decide) (hts _ (List.mem_cons_of_mem _ q_139)) (fun _ h9 => h9) rfl (by decide +kernel) rfl rfl (Nat.le_of_ble_eq_true rfl) d_Directive_init_11 (fun H locs hP hD hS => ?_)
  have hw : mm_w (dC, dI) vwC A s [(h_x, .inr (2, [.int (-1 : Int32), .int (0 : Int32), .int (0 : Int32), .int (0 : Int32), .int (0 : Int32), .int (0 : Int32), .int (0 : Int32)]))] H locs := ⟨hP, hD, hS⟩
  refine lv_aload_n hx hb d_Directive_init_14 rfl (lv_at hl 0 rfl) ?_
  refine lv_iconst (v := (0 : Int32)) hx hb d_Directive_init_15 (by decide) ?_
  refine va_put (D := (dC, dI)) (ci := 2) (v := .int (0 : Int32)) (ty := .boolean) (C := "DirectivePrinter$Directive") (T := T_Directive) (N := 7) hx hb hts (mm_up i_Directive) t_Directive t_Directive_ok n_Directive hown hK hw.1 hw.2.1 hw.2.2 0 rfl rfl 2 (by decide) (hts _ (List.mem_cons_of_mem _ q_140)) (fun _ h9 => h9) rfl (by decide +kernel) (by decide) (by decide) (Nat.le_of_ble_eq_true rfl) d_Directive_init_16 (fun H locs hP hD hS => ?_)
  have hw : mm_w (dC, dI) vwC A s [(h_x, .inr (2, [.int (-1 : Int32), .int (0 : Int32), .int (0 : Int32), .int (0 : Int32), .int (0 : Int32), .int (0 : Int32), .int (0 : Int32)]))] H locs := ⟨hP, hD, hS⟩
  refine lv_aload_n hx hb d_Directive_init_19 rfl (lv_at hl 0 rfl) ?_
  refine lv_iconst (v := (-1 : Int32)) hx hb d_Directive_init_20 (by decide) ?_
  refine va_put (D := (dC, dI)) (ci := 2) (v := .int (-1 : Int32)) (ty := .int) (C := "DirectivePrinter$Directive") (T := T_Directive) (N := 7) hx hb hts (mm_up i_Directive) t_Directive t_Directive_ok n_Directive hown hK hw.1 hw.2.1 hw.2.2 0 rfl rfl 3 (by decide) (hts _ (List.mem_cons_of_mem _ q_141)) (fun _ h9 => h9) rfl (by decide +kernel) rfl rfl (Nat.le_of_ble_eq_true rfl) d_Directive_init_21 (fun H locs hP hD hS => ?_)
  have hw : mm_w (dC, dI) vwC A s [(h_x, .inr (2, [.int (-1 : Int32), .int (0 : Int32), .int (0 : Int32), .int (-1 : Int32), .int (0 : Int32), .int (0 : Int32), .int (0 : Int32)]))] H locs := ⟨hP, hD, hS⟩
  refine lv_aload_n hx hb d_Directive_init_24 rfl (lv_at hl 0 rfl) ?_
  refine lv_iconst (v := (-1 : Int32)) hx hb d_Directive_init_25 (by decide) ?_
  refine va_put (D := (dC, dI)) (ci := 2) (v := .int (-1 : Int32)) (ty := .int) (C := "DirectivePrinter$Directive") (T := T_Directive) (N := 7) hx hb hts (mm_up i_Directive) t_Directive t_Directive_ok n_Directive hown hK hw.1 hw.2.1 hw.2.2 0 rfl rfl 4 (by decide) (hts _ (List.mem_cons_of_mem _ q_143)) (fun _ h9 => h9) rfl (by decide +kernel) rfl rfl (Nat.le_of_ble_eq_true rfl) d_Directive_init_26 (fun H locs hP hD hS => ?_)
  have hw : mm_w (dC, dI) vwC A s [(h_x, .inr (2, [.int (-1 : Int32), .int (0 : Int32), .int (0 : Int32), .int (-1 : Int32), .int (-1 : Int32), .int (0 : Int32), .int (0 : Int32)]))] H locs := ⟨hP, hD, hS⟩
  refine lv_aload_n hx hb d_Directive_init_29 rfl (lv_at hl 0 rfl) ?_
  refine lv_iconst (v := (-1 : Int32)) hx hb d_Directive_init_30 (by decide) ?_
  refine va_put (D := (dC, dI)) (ci := 2) (v := .int (-1 : Int32)) (ty := .int) (C := "DirectivePrinter$Directive") (T := T_Directive) (N := 7) hx hb hts (mm_up i_Directive) t_Directive t_Directive_ok n_Directive hown hK hw.1 hw.2.1 hw.2.2 0 rfl rfl 5 (by decide) (hts _ (List.mem_cons_of_mem _ q_145)) (fun _ h9 => h9) rfl (by decide +kernel) rfl rfl (Nat.le_of_ble_eq_true rfl) d_Directive_init_31 (fun H locs hP hD hS => ?_)
  have hw : mm_w (dC, dI) vwC A s [(h_x, .inr (2, [.int (-1 : Int32), .int (0 : Int32), .int (0 : Int32), .int (-1 : Int32), .int (-1 : Int32), .int (-1 : Int32), .int (0 : Int32)]))] H locs := ⟨hP, hD, hS⟩
  refine lv_aload_n hx hb d_Directive_init_34 rfl (lv_at hl 0 rfl) ?_
  refine lv_iconst (v := (0 : Int32)) hx hb d_Directive_init_35 (by decide) ?_
  refine va_put (D := (dC, dI)) (ci := 2) (v := .int (0 : Int32)) (ty := .int) (C := "DirectivePrinter$Directive") (T := T_Directive) (N := 7) hx hb hts (mm_up i_Directive) t_Directive t_Directive_ok n_Directive hown hK hw.1 hw.2.1 hw.2.2 0 rfl rfl 6 (by decide) (hts _ (List.mem_cons_of_mem _ q_146)) (fun _ h9 => h9) rfl (by decide +kernel) rfl rfl (Nat.le_of_ble_eq_true rfl) d_Directive_init_36 (fun H locs hP hD hS => ?_)
  have hw : mm_w (dC, dI) vwC A s [(h_x, .inr (2, [.int (-1 : Int32), .int (0 : Int32), .int (0 : Int32), .int (-1 : Int32), .int (-1 : Int32), .int (-1 : Int32), .int (0 : Int32)]))] H locs := ⟨hP, hD, hS⟩
  exact mm_nret hx hb hr hlocks hK hw rfl d_Directive_init_39
/-! new DirectivePrinter$Argument -/
abbrev r_Argument_init : Room := { frames := 2, cells := 2, slots := 66, locals := 35 }
abbrev P_Argument_init (cC cI cJ cQ : ClassId) (ad : Nat → Nat) (h_x : Nat) : va_W → Prop := (fun w => ∃ q_1 q_2 : Nat, w = [(h_x, .inr (3, [.ref (ad (0)), .long (0 : Int64), .int (0 : Int32), .ref q_1])), (q_1, .inr (0, [.ref q_2, .int (0 : Int32)])), (q_2, .inl (cC, 64, .inl (fun _ => (0 : Int32))))])
set_option maxHeartbeats 4000000 in
set_option maxRecDepth 100000 in
theorem c_Argument_init (l : Launch) {Z : (Nat → Prop) → State → Heap → Prop} {ad adK adV : Nat → Nat} (Zo : mm_Zx Z ad adK adV) (dC : Nat → ClassId) (dI : Nat → Nat → Nat) (cC cI cJ cQ : ClassId) (h_x : Nat) (sz : Nat) : Met l y_Argument_init w_Argument_init r_Argument_init (mm_pre (dC, dI) vwC (tyl cC cI cJ cQ) Z [(h_x, .inr (3, [.null, .long (0 : Int64), .int (0 : Int32), .null]))] sz [.ref h_x]) (mm_qn (dC, dI) vwC (tyl cC cI cJ cQ) (va_A [(h_x, .inr (3, [.null, .long (0 : Int64), .int (0 : Int32), .null]))] sz) (P_Argument_init cC cI cJ cQ ad h_x)) 2 66 (va_A [(h_x, .inr (3, [.null, .long (0 : Int64), .int (0 : Int32), .null]))] sz) := by
  refine mm_of (own := "DirectivePrinter$Argument") (cc := b_Argument_init) (maxL := 1) (ret := none) (by decide) rfl rfl ?_
  intro p e s m below meth c hsz C0 hw hname
  generalize (va_A [(h_x, .inr (3, [.null, .long (0 : Int64), .int (0 : Int32), .null]))] sz) = A at C0 hw ⊢
  have hl := lv_entry ([.ref h_x]) (n := 1) (Nat.le_of_ble_eq_true rfl)
  rw [lg_entry_eq]
  generalize (lg_sl ([.ref h_x]) ++ List.replicate (1 - (lg_sl ([.ref h_x])).length) Slot.unset).toArray = ls at hl ⊢
  have hl : lv_has ls 1 [(0, .ref h_x)] := hl
  obtain ⟨hx, hb, hr, hml, hown, hts, hlocks, hK, hZ, hA⟩ := id C0
  generalize s.heap = H at hw ⊢
  refine lv_aload_n hx hb d_Argument_init_0 rfl (lv_at hl 0 rfl) ?_
  refine W.objInit hx hb hown (hts _ (List.mem_cons_of_mem _ q_105)) (hts _ (List.mem_cons_of_mem _ q_80)) (hts _ (List.mem_cons_of_mem _ q_81)) rfl (by rw [hml]; exact hl.1) rfl d_Argument_init_1 (Nat.le_of_ble_eq_true rfl) (Nat.le_of_ble_eq_true rfl) ?_
  refine W.eq (g2 := F0 m 4 ls []) rfl ?_
  refine lv_aload_n hx hb d_Argument_init_4 rfl (lv_at hl 0 rfl) ?_
  refine va_gets hx hb ((Zo.2 _ _ _ hZ).2.1.1 0 (by decide)).1 hw.2.2 hown (hts _ (List.mem_cons_of_mem _ q_106)) (fun _ h9 => h9) d_Argument_init_5 ?_
  refine va_put (D := (dC, dI)) (ci := 3) (v := .ref (ad (0))) (ty := (.object "DirectivePrinter$Kind")) (C := "DirectivePrinter$Argument") (T := T_Argument) (N := 4) hx hb hts (mm_up i_Argument) t_Argument t_Argument_ok n_Argument hown hK hw.1 hw.2.1 hw.2.2 0 rfl rfl 0 (by decide) (hts _ (List.mem_cons_of_mem _ q_110)) (fun _ h9 => h9) rfl (by decide +kernel) rfl rfl (Nat.le_of_ble_eq_true rfl) d_Argument_init_8 (fun H locs hP hD hS => ?_)
  have hw : mm_w (dC, dI) vwC A s [(h_x, .inr (3, [.ref (ad (0)), .long (0 : Int64), .int (0 : Int32), .null]))] H locs := ⟨hP, hD, hS⟩
  refine lv_aload_n hx hb d_Argument_init_11 rfl (lv_at hl 0 rfl) ?_
  refine lv_lconst (v := (0 : Int64)) hx hb d_Argument_init_12 (by decide) ?_
  refine va_put (D := (dC, dI)) (ci := 3) (v := .long (0 : Int64)) (ty := .long) (C := "DirectivePrinter$Argument") (T := T_Argument) (N := 4) hx hb hts (mm_up i_Argument) t_Argument t_Argument_ok n_Argument hown hK hw.1 hw.2.1 hw.2.2 0 rfl rfl 1 (by decide) (hts _ (List.mem_cons_of_mem _ q_113)) (fun _ h9 => h9) rfl (by decide +kernel) rfl rfl (Nat.le_of_ble_eq_true rfl) d_Argument_init_13 (fun H locs hP hD hS => ?_)
  have hw : mm_w (dC, dI) vwC A s [(h_x, .inr (3, [.ref (ad (0)), .long (0 : Int64), .int (0 : Int32), .null]))] H locs := ⟨hP, hD, hS⟩
  refine lv_aload_n hx hb d_Argument_init_16 rfl (lv_at hl 0 rfl) ?_
  refine lv_iconst (v := (0 : Int32)) hx hb d_Argument_init_17 (by decide) ?_
  refine va_put (D := (dC, dI)) (ci := 3) (v := .int (0 : Int32)) (ty := .int) (C := "DirectivePrinter$Argument") (T := T_Argument) (N := 4) hx hb hts (mm_up i_Argument) t_Argument t_Argument_ok n_Argument hown hK hw.1 hw.2.1 hw.2.2 0 rfl rfl 2 (by decide) (hts _ (List.mem_cons_of_mem _ q_116)) (fun _ h9 => h9) rfl (by decide +kernel) rfl rfl (Nat.le_of_ble_eq_true rfl) d_Argument_init_18 (fun H locs hP hD hS => ?_)
  have hw : mm_w (dC, dI) vwC A s [(h_x, .inr (3, [.ref (ad (0)), .long (0 : Int64), .int (0 : Int32), .null]))] H locs := ⟨hP, hD, hS⟩
  refine lv_aload_n hx hb d_Argument_init_21 rfl (lv_at hl 0 rfl) ?_
  refine va_new (ci := 0) (fs := [.null, .int (0 : Int32)]) (C := "DirectivePrinter$Row") (T := T_Row) (N := 2) hx hb hts (mm_up i_Row) t_Row t_Row_ok hown (hts _ (List.mem_cons_of_mem _ q_108)) (hts _ (List.mem_cons_of_mem _ q_83)) (hts _ (List.mem_cons_of_mem _ q_55)) hK hw.1 hw.2.1 hw.2.2 hA rfl (fun j hj => by rcases (show j = 0 ∨ j = 1 by omega) with rfl | rfl <;> rfl) (Nat.le_of_ble_eq_true rfl) (Nat.le_of_ble_eq_true rfl) d_Argument_init_22 (fun q_1 H hP hD hS => ?_)
  have hw : mm_w (dC, dI) vwC A s [(h_x, .inr (3, [.ref (ad (0)), .long (0 : Int64), .int (0 : Int32), .null])), (q_1, .inr (0, [.null, .int (0 : Int32)]))] H _ := ⟨hP, hD, hS⟩
  refine lv_dup hx hb d_Argument_init_25 rfl ?_
  refine lv_bipush (v := (64 : Int32)) hx hb d_Argument_init_26 (by decide) ?_
  refine mm_cn (wr := [(h_x, .inr (3, [.ref (ad (0)), .long (0 : Int64), .int (0 : Int32), .null]))]) (va_runI (As := [.int (64 : Int32)]) (rest := [.ref q_1, .ref h_x]) ⟨hx, hb, hml, hown, hts⟩ (c_Row_init_64 l Zo dC dI cC cI cJ cQ q_1 H.size) (cwI 1 hts (mm_g0 q_86) rfl rfl rfl (hts _ (List.mem_cons_of_mem _ q_55)) (hts _ (List.mem_cons_of_mem _ q_109)) (hts _ (List.mem_cons_of_mem _ q_85)) rfl (by decide +kernel) ⟨Nat.le_of_ble_eq_true rfl, Nat.le_of_ble_eq_true rfl⟩) (mm_ps Zo.1 hK hw hZ hA [1] (by decide) rfl rfl) rfl rfl hl.1 rfl (lv_room (Nat.le_of_ble_eq_true rfl)) d_Argument_init_28 ⟨Nat.le_of_ble_eq_true rfl, Nat.le_of_ble_eq_true rfl⟩) hw hA [1] [0] rfl rfl (by decide) (by decide) (fun H locs w1 hp hw => ?_)
  obtain ⟨q_2, rfl⟩ := hp
  have hw : mm_w (dC, dI) vwC A s [(h_x, .inr (3, [.ref (ad (0)), .long (0 : Int64), .int (0 : Int32), .null])), (q_1, .inr (0, [.ref q_2, .int (0 : Int32)])), (q_2, .inl (cC, 64, .inl (fun _ => (0 : Int32))))] H locs := hw
  refine va_putF (D := (dC, dI)) (ci := 3) (v := .ref q_1) (ty := (.object "DirectivePrinter$Row")) (C := "DirectivePrinter$Argument") (T := T_Argument) (N := 4) hx hb hts (mm_up i_Argument) t_Argument t_Argument_ok n_Argument hown hK hw.1 hw.2.1 hw.2.2 0 rfl rfl 3 (by decide) (hts _ (List.mem_cons_of_mem _ q_119)) (fun _ h9 => h9) rfl hname rfl (by decide +kernel) rfl rfl (Nat.le_of_ble_eq_true rfl) d_Argument_init_31 (fun H locs hP hD hS => ?_)
  have hw : mm_w (dC, dI) vwC A s [(h_x, .inr (3, [.ref (ad (0)), .long (0 : Int64), .int (0 : Int32), .ref q_1])), (q_1, .inr (0, [.ref q_2, .int (0 : Int32)])), (q_2, .inl (cC, 64, .inl (fun _ => (0 : Int32))))] H locs := ⟨hP, hD, hS⟩
  exact mm_nret hx hb hr hlocks hK hw ⟨q_1, q_2, rfl⟩ d_Argument_init_34
/-! new DirectivePrinter$Composer -/
abbrev r_Composer_init : Room := { frames := 2, cells := 4, slots := 4125, locals := 35 }
abbrev P_Composer_init (cC cI cJ cQ : ClassId) (ad : Nat → Nat) (h_x : Nat) : va_W → Prop := (fun w => ∃ q_1 q_2 q_3 q_4 : Nat, w = [(h_x, .inr (4, [.ref q_1, .ref q_3, .int (0 : Int32), .int (-1 : Int32), .int (0 : Int32), .int (0 : Int32)])), (q_1, .inr (0, [.ref q_2, .int (0 : Int32)])), (q_2, .inl (cC, 4096, .inl (fun _ => (0 : Int32)))), (q_3, .inr (1, [.ref q_4, .int (0 : Int32), .int (0 : Int32)])), (q_4, .inl (cI, 24, .inl (fun _ => (0 : Int32))))])
set_option maxHeartbeats 4000000 in
set_option maxRecDepth 100000 in
theorem c_Composer_init (l : Launch) {Z : (Nat → Prop) → State → Heap → Prop} {ad adK adV : Nat → Nat} (Zo : mm_Zx Z ad adK adV) (dC : Nat → ClassId) (dI : Nat → Nat → Nat) (cC cI cJ cQ : ClassId) (h_x : Nat) (sz : Nat) : Met l y_Composer_init w_Composer_init r_Composer_init (mm_pre (dC, dI) vwC (tyl cC cI cJ cQ) Z [(h_x, .inr (4, [.null, .null, .int (0 : Int32), .int (0 : Int32), .int (0 : Int32), .int (0 : Int32)]))] sz [.ref h_x]) (mm_qn (dC, dI) vwC (tyl cC cI cJ cQ) (va_A [(h_x, .inr (4, [.null, .null, .int (0 : Int32), .int (0 : Int32), .int (0 : Int32), .int (0 : Int32)]))] sz) (P_Composer_init cC cI cJ cQ ad h_x)) 4 4125 (va_A [(h_x, .inr (4, [.null, .null, .int (0 : Int32), .int (0 : Int32), .int (0 : Int32), .int (0 : Int32)]))] sz) := by
  refine mm_of (own := "DirectivePrinter$Composer") (cc := b_Composer_init) (maxL := 1) (ret := none) (by decide) rfl rfl ?_
  intro p e s m below meth c hsz C0 hw hname
  generalize (va_A [(h_x, .inr (4, [.null, .null, .int (0 : Int32), .int (0 : Int32), .int (0 : Int32), .int (0 : Int32)]))] sz) = A at C0 hw ⊢
  have hl := lv_entry ([.ref h_x]) (n := 1) (Nat.le_of_ble_eq_true rfl)
  rw [lg_entry_eq]
  generalize (lg_sl ([.ref h_x]) ++ List.replicate (1 - (lg_sl ([.ref h_x])).length) Slot.unset).toArray = ls at hl ⊢
  have hl : lv_has ls 1 [(0, .ref h_x)] := hl
  obtain ⟨hx, hb, hr, hml, hown, hts, hlocks, hK, hZ, hA⟩ := id C0
  generalize s.heap = H at hw ⊢
  refine lv_aload_n hx hb d_Composer_init_0 rfl (lv_at hl 0 rfl) ?_
  refine W.objInit hx hb hown (hts _ (List.mem_cons_of_mem _ q_167)) (hts _ (List.mem_cons_of_mem _ q_80)) (hts _ (List.mem_cons_of_mem _ q_81)) rfl (by rw [hml]; exact hl.1) rfl d_Composer_init_1 (Nat.le_of_ble_eq_true rfl) (Nat.le_of_ble_eq_true rfl) ?_
  refine W.eq (g2 := F0 m 4 ls []) rfl ?_
  refine lv_aload_n hx hb d_Composer_init_4 rfl (lv_at hl 0 rfl) ?_
  refine va_new (ci := 0) (fs := [.null, .int (0 : Int32)]) (C := "DirectivePrinter$Row") (T := T_Row) (N := 2) hx hb hts (mm_up i_Row) t_Row t_Row_ok hown (hts _ (List.mem_cons_of_mem _ q_168)) (hts _ (List.mem_cons_of_mem _ q_83)) (hts _ (List.mem_cons_of_mem _ q_55)) hK hw.1 hw.2.1 hw.2.2 hA rfl (fun j hj => by rcases (show j = 0 ∨ j = 1 by omega) with rfl | rfl <;> rfl) (Nat.le_of_ble_eq_true rfl) (Nat.le_of_ble_eq_true rfl) d_Composer_init_5 (fun q_1 H hP hD hS => ?_)
  have hw : mm_w (dC, dI) vwC A s [(h_x, .inr (4, [.null, .null, .int (0 : Int32), .int (0 : Int32), .int (0 : Int32), .int (0 : Int32)])), (q_1, .inr (0, [.null, .int (0 : Int32)]))] H _ := ⟨hP, hD, hS⟩
  refine lv_dup hx hb d_Composer_init_8 rfl ?_
  refine lv_sipush (v := (4096 : Int32)) hx hb d_Composer_init_9 (by decide) ?_
  refine mm_cn (wr := [(h_x, .inr (4, [.null, .null, .int (0 : Int32), .int (0 : Int32), .int (0 : Int32), .int (0 : Int32)]))]) (va_runI (As := [.int (4096 : Int32)]) (rest := [.ref q_1, .ref h_x]) ⟨hx, hb, hml, hown, hts⟩ (c_Row_init_4096 l Zo dC dI cC cI cJ cQ q_1 H.size) (cwI 1 hts (mm_g0 q_86) rfl rfl rfl (hts _ (List.mem_cons_of_mem _ q_55)) (hts _ (List.mem_cons_of_mem _ q_169)) (hts _ (List.mem_cons_of_mem _ q_85)) rfl (by decide +kernel) ⟨Nat.le_of_ble_eq_true rfl, Nat.le_of_ble_eq_true rfl⟩) (mm_ps Zo.1 hK hw hZ hA [1] (by decide) rfl rfl) rfl rfl hl.1 rfl (lv_room (Nat.le_of_ble_eq_true rfl)) d_Composer_init_12 ⟨Nat.le_of_ble_eq_true rfl, Nat.le_of_ble_eq_true rfl⟩) hw hA [1] [0] rfl rfl (by decide) (by decide) (fun H locs w1 hp hw => ?_)
  obtain ⟨q_2, rfl⟩ := hp
  have hw : mm_w (dC, dI) vwC A s [(h_x, .inr (4, [.null, .null, .int (0 : Int32), .int (0 : Int32), .int (0 : Int32), .int (0 : Int32)])), (q_1, .inr (0, [.ref q_2, .int (0 : Int32)])), (q_2, .inl (cC, 4096, .inl (fun _ => (0 : Int32))))] H locs := hw
  refine va_putF (D := (dC, dI)) (ci := 4) (v := .ref q_1) (ty := (.object "DirectivePrinter$Row")) (C := "DirectivePrinter$Composer") (T := T_Composer) (N := 6) hx hb hts (mm_up i_Composer) t_Composer t_Composer_ok n_Composer hown hK hw.1 hw.2.1 hw.2.2 0 rfl rfl 0 (by decide) (hts _ (List.mem_cons_of_mem _ q_187)) (fun _ h9 => h9) rfl hname rfl (by decide +kernel) rfl rfl (Nat.le_of_ble_eq_true rfl) d_Composer_init_15 (fun H locs hP hD hS => ?_)
  have hw : mm_w (dC, dI) vwC A s [(h_x, .inr (4, [.ref q_1, .null, .int (0 : Int32), .int (0 : Int32), .int (0 : Int32), .int (0 : Int32)])), (q_1, .inr (0, [.ref q_2, .int (0 : Int32)])), (q_2, .inl (cC, 4096, .inl (fun _ => (0 : Int32))))] H locs := ⟨hP, hD, hS⟩
  refine lv_aload_n hx hb d_Composer_init_18 rfl (lv_at hl 0 rfl) ?_
  refine va_new (ci := 1) (fs := [.null, .int (0 : Int32), .int (0 : Int32)]) (C := "DirectivePrinter$Figures") (T := T_Figures) (N := 3) hx hb hts (mm_up i_Figures) t_Figures t_Figures_ok hown (hts _ (List.mem_cons_of_mem _ q_170)) (hts _ (List.mem_cons_of_mem _ q_171)) (hts _ (List.mem_cons_of_mem _ q_62)) hK hw.1 hw.2.1 hw.2.2 hA rfl (fun j hj => by rcases (show j = 0 ∨ j = 1 ∨ j = 2 by omega) with rfl | rfl | rfl <;> rfl) (Nat.le_of_ble_eq_true rfl) (Nat.le_of_ble_eq_true rfl) d_Composer_init_19 (fun q_3 H hP hD hS => ?_)
  have hw : mm_w (dC, dI) vwC A s [(h_x, .inr (4, [.ref q_1, .null, .int (0 : Int32), .int (0 : Int32), .int (0 : Int32), .int (0 : Int32)])), (q_1, .inr (0, [.ref q_2, .int (0 : Int32)])), (q_2, .inl (cC, 4096, .inl (fun _ => (0 : Int32)))), (q_3, .inr (1, [.null, .int (0 : Int32), .int (0 : Int32)]))] H _ := ⟨hP, hD, hS⟩
  refine lv_dup hx hb d_Composer_init_22 rfl ?_
  refine mm_cn (wr := [(h_x, .inr (4, [.ref q_1, .null, .int (0 : Int32), .int (0 : Int32), .int (0 : Int32), .int (0 : Int32)])), (q_1, .inr (0, [.ref q_2, .int (0 : Int32)])), (q_2, .inl (cC, 4096, .inl (fun _ => (0 : Int32))))]) (va_runI (As := []) (rest := [.ref q_3, .ref h_x]) ⟨hx, hb, hml, hown, hts⟩ (c_Figures_init l Zo dC dI cC cI cJ cQ q_3 H.size) (cwI 0 hts (mm_g0 q_174) rfl rfl rfl (hts _ (List.mem_cons_of_mem _ q_62)) (hts _ (List.mem_cons_of_mem _ q_172)) (hts _ (List.mem_cons_of_mem _ q_173)) rfl (by decide +kernel) ⟨Nat.le_of_ble_eq_true rfl, Nat.le_of_ble_eq_true rfl⟩) (mm_ps Zo.1 hK hw hZ hA [3] (by decide) rfl rfl) rfl rfl hl.1 rfl (lv_room (Nat.le_of_ble_eq_true rfl)) d_Composer_init_23 ⟨Nat.le_of_ble_eq_true rfl, Nat.le_of_ble_eq_true rfl⟩) hw hA [3] [0, 1, 2] rfl rfl (by decide) (by decide) (fun H locs w1 hp hw => ?_)
  obtain ⟨q_4, rfl⟩ := hp
  have hw : mm_w (dC, dI) vwC A s [(h_x, .inr (4, [.ref q_1, .null, .int (0 : Int32), .int (0 : Int32), .int (0 : Int32), .int (0 : Int32)])), (q_1, .inr (0, [.ref q_2, .int (0 : Int32)])), (q_2, .inl (cC, 4096, .inl (fun _ => (0 : Int32)))), (q_3, .inr (1, [.ref q_4, .int (0 : Int32), .int (0 : Int32)])), (q_4, .inl (cI, 24, .inl (fun _ => (0 : Int32))))] H locs := hw
  refine va_putF (D := (dC, dI)) (ci := 4) (v := .ref q_3) (ty := (.object "DirectivePrinter$Figures")) (C := "DirectivePrinter$Composer") (T := T_Composer) (N := 6) hx hb hts (mm_up i_Composer) t_Composer t_Composer_ok n_Composer hown hK hw.1 hw.2.1 hw.2.2 0 rfl rfl 1 (by decide) (hts _ (List.mem_cons_of_mem _ q_189)) (fun _ h9 => h9) rfl hname rfl (by decide +kernel) rfl rfl (Nat.le_of_ble_eq_true rfl) d_Composer_init_26 (fun H locs hP hD hS => ?_)
  have hw : mm_w (dC, dI) vwC A s [(h_x, .inr (4, [.ref q_1, .ref q_3, .int (0 : Int32), .int (0 : Int32), .int (0 : Int32), .int (0 : Int32)])), (q_1, .inr (0, [.ref q_2, .int (0 : Int32)])), (q_2, .inl (cC, 4096, .inl (fun _ => (0 : Int32)))), (q_3, .inr (1, [.ref q_4, .int (0 : Int32), .int (0 : Int32)])), (q_4, .inl (cI, 24, .inl (fun _ => (0 : Int32))))] H locs := ⟨hP, hD, hS⟩
  refine lv_aload_n hx hb d_Composer_init_29 rfl (lv_at hl 0 rfl) ?_
  refine lv_iconst (v := (0 : Int32)) hx hb d_Composer_init_30 (by decide) ?_
  refine va_put (D := (dC, dI)) (ci := 4) (v := .int (0 : Int32)) (ty := .int) (C := "DirectivePrinter$Composer") (T := T_Composer) (N := 6) hx hb hts (mm_up i_Composer) t_Composer t_Composer_ok n_Composer hown hK hw.1 hw.2.1 hw.2.2 0 rfl rfl 2 (by decide) (hts _ (List.mem_cons_of_mem _ q_190)) (fun _ h9 => h9) rfl (by decide +kernel) rfl rfl (Nat.le_of_ble_eq_true rfl) d_Composer_init_31 (fun H locs hP hD hS => ?_)
  have hw : mm_w (dC, dI) vwC A s [(h_x, .inr (4, [.ref q_1, .ref q_3, .int (0 : Int32), .int (0 : Int32), .int (0 : Int32), .int (0 : Int32)])), (q_1, .inr (0, [.ref q_2, .int (0 : Int32)])), (q_2, .inl (cC, 4096, .inl (fun _ => (0 : Int32)))), (q_3, .inr (1, [.ref q_4, .int (0 : Int32), .int (0 : Int32)])), (q_4, .inl (cI, 24, .inl (fun _ => (0 : Int32))))] H locs := ⟨hP, hD, hS⟩
  refine lv_aload_n hx hb d_Composer_init_34 rfl (lv_at hl 0 rfl) ?_
  refine lv_iconst (v := (-1 : Int32)) hx hb d_Composer_init_35 (by decide) ?_
  refine va_put (D := (dC, dI)) (ci := 4) (v := .int (-1 : Int32)) (ty := .int) (C := "DirectivePrinter$Composer") (T := T_Composer) (N := 6) hx hb hts (mm_up i_Composer) t_Composer t_Composer_ok n_Composer hown hK hw.1 hw.2.1 hw.2.2 0 rfl rfl 3 (by decide) (hts _ (List.mem_cons_of_mem _ q_191)) (fun _ h9 => h9) rfl (by decide +kernel) rfl rfl (Nat.le_of_ble_eq_true rfl) d_Composer_init_36 (fun H locs hP hD hS => ?_)
  have hw : mm_w (dC, dI) vwC A s [(h_x, .inr (4, [.ref q_1, .ref q_3, .int (0 : Int32), .int (-1 : Int32), .int (0 : Int32), .int (0 : Int32)])), (q_1, .inr (0, [.ref q_2, .int (0 : Int32)])), (q_2, .inl (cC, 4096, .inl (fun _ => (0 : Int32)))), (q_3, .inr (1, [.ref q_4, .int (0 : Int32), .int (0 : Int32)])), (q_4, .inl (cI, 24, .inl (fun _ => (0 : Int32))))] H locs := ⟨hP, hD, hS⟩
  refine lv_aload_n hx hb d_Composer_init_39 rfl (lv_at hl 0 rfl) ?_
  refine lv_iconst (v := (0 : Int32)) hx hb d_Composer_init_40 (by decide) ?_
  refine va_put (D := (dC, dI)) (ci := 4) (v := .int (0 : Int32)) (ty := .int) (C := "DirectivePrinter$Composer") (T := T_Composer) (N := 6) hx hb hts (mm_up i_Composer) t_Composer t_Composer_ok n_Composer hown hK hw.1 hw.2.1 hw.2.2 0 rfl rfl 4 (by decide) (hts _ (List.mem_cons_of_mem _ q_192)) (fun _ h9 => h9) rfl (by decide +kernel) rfl rfl (Nat.le_of_ble_eq_true rfl) d_Composer_init_41 (fun H locs hP hD hS => ?_)
  have hw : mm_w (dC, dI) vwC A s [(h_x, .inr (4, [.ref q_1, .ref q_3, .int (0 : Int32), .int (-1 : Int32), .int (0 : Int32), .int (0 : Int32)])), (q_1, .inr (0, [.ref q_2, .int (0 : Int32)])), (q_2, .inl (cC, 4096, .inl (fun _ => (0 : Int32)))), (q_3, .inr (1, [.ref q_4, .int (0 : Int32), .int (0 : Int32)])), (q_4, .inl (cI, 24, .inl (fun _ => (0 : Int32))))] H locs := ⟨hP, hD, hS⟩
  refine lv_aload_n hx hb d_Composer_init_44 rfl (lv_at hl 0 rfl) ?_
  refine lv_iconst (v := (0 : Int32)) hx hb d_Composer_init_45 (by decide) ?_
  refine va_put (D := (dC, dI)) (ci := 4) (v := .int (0 : Int32)) (ty := .boolean) (C := "DirectivePrinter$Composer") (T := T_Composer) (N := 6) hx hb hts (mm_up i_Composer) t_Composer t_Composer_ok n_Composer hown hK hw.1 hw.2.1 hw.2.2 0 rfl rfl 5 (by decide) (hts _ (List.mem_cons_of_mem _ q_193)) (fun _ h9 => h9) rfl (by decide +kernel) (by decide) (by decide) (Nat.le_of_ble_eq_true rfl) d_Composer_init_46 (fun H locs hP hD hS => ?_)
  have hw : mm_w (dC, dI) vwC A s [(h_x, .inr (4, [.ref q_1, .ref q_3, .int (0 : Int32), .int (-1 : Int32), .int (0 : Int32), .int (0 : Int32)])), (q_1, .inr (0, [.ref q_2, .int (0 : Int32)])), (q_2, .inl (cC, 4096, .inl (fun _ => (0 : Int32)))), (q_3, .inr (1, [.ref q_4, .int (0 : Int32), .int (0 : Int32)])), (q_4, .inl (cI, 24, .inl (fun _ => (0 : Int32))))] H locs := ⟨hP, hD, hS⟩
  exact mm_nret hx hb hr hlocks hK hw ⟨q_1, q_2, q_3, q_4, rfl⟩ d_Composer_init_49
end
