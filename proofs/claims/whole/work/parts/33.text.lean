section
variable {p : Program} {l : Launch} {e : Env} {s : State} {m : MethodId} {args : Array Value} {below : List Frame} {meth : Method} {c : Code} {dC : Nat → ClassId} {dI : Nat → Nat → Nat} {cC cI cJ cQ : ClassId} {A : Nat → Prop} {Z : (Nat → Prop) → State → Heap → Prop} {ad adK adV : Nat → Nat}
abbrev b_DP_text : ByteArray := prog_1_method_9_code
abbrev y_DP_text : MethodName := ⟨"DirectivePrinter", "text", "()I"⟩
def w_DP_text : List Cond := .code y_DP_text b_DP_text 3 (some .int) :: lw_g
theorem d_DP_text_0 : decode b_DP_text 0 = .ok (.aload_n 0, 1) := by decide +kernel
theorem d_DP_text_1 : decode b_DP_text 1 = .ok (.getfield 14, 3) := by decide +kernel
theorem d_DP_text_4 : decode b_DP_text 4 = .ok (.invokevirtual 66, 3) := by decide +kernel
theorem d_DP_text_7 : decode b_DP_text 7 = .ok (.bipush 64, 2) := by decide +kernel
theorem d_DP_text_9 : decode b_DP_text 9 = .ok (.if_icmp .le 13, 3) := by decide +kernel
theorem d_DP_text_12 : decode b_DP_text 12 = .ok (.new 102, 3) := by decide +kernel
theorem d_DP_text_15 : decode b_DP_text 15 = .ok (.dup, 1) := by decide +kernel
theorem d_DP_text_16 : decode b_DP_text 16 = .ok (.ldc 104, 2) := by decide +kernel
theorem d_DP_text_18 : decode b_DP_text 18 = .ok (.invokespecial 106, 3) := by decide +kernel
theorem d_DP_text_21 : decode b_DP_text 21 = .ok (.athrow, 1) := by decide +kernel
theorem d_DP_text_22 : decode b_DP_text 22 = .ok (.aload_n 0, 1) := by decide +kernel
theorem d_DP_text_23 : decode b_DP_text 23 = .ok (.getstatic 107, 3) := by decide +kernel
theorem d_DP_text_26 : decode b_DP_text 26 = .ok (.lconst 0, 1) := by decide +kernel
theorem d_DP_text_27 : decode b_DP_text 27 = .ok (.iconst 0, 1) := by decide +kernel
theorem d_DP_text_28 : decode b_DP_text 28 = .ok (.invokevirtual 85, 3) := by decide +kernel
theorem d_DP_text_31 : decode b_DP_text 31 = .ok (.istore_n 1, 1) := by decide +kernel
theorem d_DP_text_32 : decode b_DP_text 32 = .ok (.aload_n 0, 1) := by decide +kernel
theorem d_DP_text_33 : decode b_DP_text 33 = .ok (.iload_n 1, 1) := by decide +kernel
theorem d_DP_text_34 : decode b_DP_text 34 = .ok (.invokevirtual 110, 3) := by decide +kernel
theorem d_DP_text_37 : decode b_DP_text 37 = .ok (.astore_n 2, 1) := by decide +kernel
theorem d_DP_text_38 : decode b_DP_text 38 = .ok (.aload_n 2, 1) := by decide +kernel
theorem d_DP_text_39 : decode b_DP_text 39 = .ok (.ifnull 30, 3) := by decide +kernel
theorem d_DP_text_42 : decode b_DP_text 42 = .ok (.aload_n 2, 1) := by decide +kernel
theorem d_DP_text_43 : decode b_DP_text 43 = .ok (.getfield 114, 3) := by decide +kernel
theorem d_DP_text_46 : decode b_DP_text 46 = .ok (.iconst 0, 1) := by decide +kernel
theorem d_DP_text_47 : decode b_DP_text 47 = .ok (.invokevirtual 76, 3) := by decide +kernel
theorem d_DP_text_50 : decode b_DP_text 50 = .ok (.aload_n 2, 1) := by decide +kernel
theorem d_DP_text_51 : decode b_DP_text 51 = .ok (.getfield 114, 3) := by decide +kernel
theorem d_DP_text_54 : decode b_DP_text 54 = .ok (.aload_n 0, 1) := by decide +kernel
theorem d_DP_text_55 : decode b_DP_text 55 = .ok (.getfield 14, 3) := by decide +kernel
theorem d_DP_text_58 : decode b_DP_text 58 = .ok (.invokevirtual 117, 3) := by decide +kernel
theorem d_DP_text_61 : decode b_DP_text 61 = .ok (.aload_n 0, 1) := by decide +kernel
theorem d_DP_text_62 : decode b_DP_text 62 = .ok (.getfield 14, 3) := by decide +kernel
theorem d_DP_text_65 : decode b_DP_text 65 = .ok (.iconst 0, 1) := by decide +kernel
theorem d_DP_text_66 : decode b_DP_text 66 = .ok (.invokevirtual 76, 3) := by decide +kernel
theorem d_DP_text_69 : decode b_DP_text 69 = .ok (.iload_n 1, 1) := by decide +kernel
theorem d_DP_text_70 : decode b_DP_text 70 = .ok (.ireturn, 1) := by decide +kernel
set_option maxRecDepth 100000 in
theorem q_767 : (.fieldLink "DirectivePrinter" 107 "DirectivePrinter$Kind" "TEXT" "LDirectivePrinter$Kind;" : Cond) ∈ lw_g := List.mem_filter.mpr ⟨List.mem_of_getElem? (i := 767) (by decide +kernel), by decide +kernel⟩
set_option maxRecDepth 100000 in
theorem q_428 : (.methodLink "DirectivePrinter" 110 ⟨"DirectivePrinter", "argumentNumbered", "(I)LDirectivePrinter$Argument;"⟩ : Cond) ∈ lw_g := List.mem_filter.mpr ⟨List.mem_of_getElem? (i := 428) (by decide +kernel), by decide +kernel⟩
set_option maxRecDepth 100000 in
theorem q_430 : (.instanceMethod ⟨"DirectivePrinter", "argumentNumbered", "(I)LDirectivePrinter$Argument;"⟩ : Cond) ∈ lw_g := List.mem_filter.mpr ⟨List.mem_of_getElem? (i := 430) (by decide +kernel), by decide +kernel⟩
set_option maxRecDepth 100000 in
theorem q_9 : (.selects "DirectivePrinter" ⟨"DirectivePrinter", "argumentNumbered", "(I)LDirectivePrinter$Argument;"⟩ ⟨"DirectivePrinter", "argumentNumbered", "(I)LDirectivePrinter$Argument;"⟩ : Cond) ∈ lw_g := List.mem_filter.mpr ⟨List.mem_of_getElem? (i := 9) (by decide +kernel), by decide +kernel⟩
set_option maxRecDepth 100000 in
theorem q_431 : (.code ⟨"DirectivePrinter", "argumentNumbered", "(I)LDirectivePrinter$Argument;"⟩ prog_1_method_16_code 2 (Option.some (FieldType.object "DirectivePrinter$Argument")) : Cond) ∈ lw_g := List.mem_filter.mpr ⟨List.mem_of_getElem? (i := 431) (rfl), by decide +kernel⟩
set_option maxRecDepth 100000 in
theorem q_768 : (.methodLink "DirectivePrinter" 117 ⟨"DirectivePrinter$Row", "addRow", "(LDirectivePrinter$Row;)V"⟩ : Cond) ∈ lw_g := List.mem_filter.mpr ⟨List.mem_of_getElem? (i := 768) (by decide +kernel), by decide +kernel⟩
/-! DirectivePrinter.text()I -/
def f_DP_text (N : Nat) (x_format_kept_n : Nat) (x_format_kept : Nat → Int32) (x_format_length : Int32) (x_argumentCount : Int32) (x_kind : Nat → Nat) (x_value : Nat → Int64) (x_sz : Nat → Int32) (x_tlen : Nat → Int32) (x_tkept : Nat → Nat → Int32) : Option (Int32 × Int32 × Int32 × (Nat → Nat) × (Nat → Int64) × (Nat → Int32) × (Nat → Int32) × (Nat → Nat → Int32)) := mm_b1 (f_Row_size x_format_length) (fun r_1 => (if r_1 ≤ (64 : Int32) then mm_b5 (f_DP_addArgument x_argumentCount (4) (0 : Int64) (0 : Int32) x_kind x_value x_sz) (fun r_2 o_3 o_4 o_5 o_6 => mm_b1 (f_DP_argumentNumbered o_3 r_2) (fun r_7 => mm_o r_7 (some (r_2, x_format_length, o_3, o_4, o_5, o_6, x_tlen, x_tkept)) (fun j_8 => (if j_8 < 9 then mm_b1 (f_Row_cutTo (x_tlen j_8) (0 : Int32)) (fun o_9 => mm_b2 (f_Row_addRow N (64) (x_tkept j_8) o_9 x_format_kept_n x_format_kept x_format_length) (fun o_10 o_11 => mm_b1 (f_Row_cutTo x_format_length (0 : Int32)) (fun o_12 => some (r_2, o_12, o_3, o_4, o_5, o_6, va_up x_tlen j_8 o_11, va_up x_tkept j_8 o_10)))) else none)))) else none))
abbrev r_DP_text : Room := { frames := 2, cells := 0, slots := 0, locals := 44 }
set_option maxHeartbeats 4000000 in
set_option maxRecDepth 100000 in
theorem c_DP_text (l : Launch) {Z : (Nat → Prop) → State → Heap → Prop} {ad adK adV : Nat → Nat} (Zo : mm_Zx Z ad adK adV) (dC : Nat → ClassId) (dI : Nat → Nat → Nat) (cC cI cJ cQ : ClassId) (N : Nat) (x_format_kept_n : Nat) (x_format_kept : Nat → Int32) (x_format_length : Int32) (x_argumentCount : Int32) (x_lastFault : Int32) (x_lastPlace : Int32) (x_unnumbered : Int32) (x_previousArgument : Int32) (x_kind : Nat → Nat) (x_value : Nat → Int64) (x_sz : Nat → Int32) (x_tlen : Nat → Int32) (x_tkept : Nat → Nat → Int32) (h_x h_x_format h_x_format_kept h_x_arguments h_x_paper h_x_directive h_x_composer : Nat) (pA pR pK : Nat → Nat) (sz : Nat) (out : Int32 × Int32 × Int32 × (Nat → Nat) × (Nat → Int64) × (Nat → Int32) × (Nat → Int32) × (Nat → Nat → Int32)) (hf : f_DP_text N x_format_kept_n x_format_kept x_format_length x_argumentCount x_kind x_value x_sz x_tlen x_tkept = some out) : Met l y_DP_text w_DP_text r_DP_text (mm_pre (dC, dI) vwC (tyl cC cI cJ cQ) Z ([(h_x, .inr (5, [.ref h_x_format, .ref h_x_paper, .ref h_x_arguments, .ref h_x_directive, .ref h_x_composer, .int x_argumentCount, .int x_lastFault, .int x_lastPlace, .int x_unnumbered, .int x_previousArgument])), (h_x_format, .inr (0, [.ref h_x_format_kept, .int x_format_length])), (h_x_format_kept, .inl (cC, x_format_kept_n, .inl x_format_kept)), (h_x_arguments, .inl (cQ, 9, .inr (.inr (.inr (.inr (fun q => some (pA q)))))))] ++ apool pA pR pK ad cC x_kind x_value x_sz x_tlen x_tkept) sz [.ref h_x]) (mm_qi (dC, dI) vwC (tyl cC cI cJ cQ) (va_A ([(h_x, .inr (5, [.ref h_x_format, .ref h_x_paper, .ref h_x_arguments, .ref h_x_directive, .ref h_x_composer, .int x_argumentCount, .int x_lastFault, .int x_lastPlace, .int x_unnumbered, .int x_previousArgument])), (h_x_format, .inr (0, [.ref h_x_format_kept, .int x_format_length])), (h_x_format_kept, .inl (cC, x_format_kept_n, .inl x_format_kept)), (h_x_arguments, .inl (cQ, 9, .inr (.inr (.inr (.inr (fun q => some (pA q)))))))] ++ apool pA pR pK ad cC x_kind x_value x_sz x_tlen x_tkept) sz) ([(h_x, .inr (5, [.ref h_x_format, .ref h_x_paper, .ref h_x_arguments, .ref h_x_directive, .ref h_x_composer, .int out.2.2.1, .int x_lastFault, .int x_lastPlace, .int x_unnumbered, .int x_previousArgument])), (h_x_format, .inr (0, [.ref h_x_format_kept, .int out.2.1])), (h_x_format_kept, .inl (cC, x_format_kept_n, .inl x_format_kept)), (h_x_arguments, .inl (cQ, 9, .inr (.inr (.inr (.inr (fun q => some (pA q)))))))] ++ apool pA pR pK ad cC out.2.2.2.1 out.2.2.2.2.1 out.2.2.2.2.2.1 out.2.2.2.2.2.2.1 out.2.2.2.2.2.2.2) out.1) 0 0 (va_A ([(h_x, .inr (5, [.ref h_x_format, .ref h_x_paper, .ref h_x_arguments, .ref h_x_directive, .ref h_x_composer, .int x_argumentCount, .int x_lastFault, .int x_lastPlace, .int x_unnumbered, .int x_previousArgument])), (h_x_format, .inr (0, [.ref h_x_format_kept, .int x_format_length])), (h_x_format_kept, .inl (cC, x_format_kept_n, .inl x_format_kept)), (h_x_arguments, .inl (cQ, 9, .inr (.inr (.inr (.inr (fun q => some (pA q)))))))] ++ apool pA pR pK ad cC x_kind x_value x_sz x_tlen x_tkept) sz) := by
  refine mm_of (own := "DirectivePrinter") (cc := b_DP_text) (maxL := 3) (ret := (some .int)) (by decide) rfl rfl ?_
  intro p e s m below meth c hsz C0 hw hname
  generalize (va_A ([(h_x, .inr (5, [.ref h_x_format, .ref h_x_paper, .ref h_x_arguments, .ref h_x_directive, .ref h_x_composer, .int x_argumentCount, .int x_lastFault, .int x_lastPlace, .int x_unnumbered, .int x_previousArgument])), (h_x_format, .inr (0, [.ref h_x_format_kept, .int x_format_length])), (h_x_format_kept, .inl (cC, x_format_kept_n, .inl x_format_kept)), (h_x_arguments, .inl (cQ, 9, .inr (.inr (.inr (.inr (fun q => some (pA q)))))))] ++ apool pA pR pK ad cC x_kind x_value x_sz x_tlen x_tkept) sz) = A at C0 hw ⊢
  have hl := lv_entry ([.ref h_x]) (n := 3) (Nat.le_of_ble_eq_true rfl)
  rw [lg_entry_eq]
  generalize (lg_sl ([.ref h_x]) ++ List.replicate (3 - (lg_sl ([.ref h_x])).length) Slot.unset).toArray = ls at hl ⊢
  have hl : lv_has ls 3 [(0, .ref h_x)] := hl
  obtain ⟨hx, hb, hr, hml, hown, hts, hlocks, hK, hZ, hA⟩ := id C0
  generalize s.heap = H at hw ⊢
  unfold f_DP_text at hf
  refine lv_aload_n hx hb d_DP_text_0 rfl (lv_at hl 0 rfl) ?_
  refine va_get (D := (dC, dI)) (ci := 5) (v := .ref h_x_format) (C := "DirectivePrinter") (T := T_DP) (N := 10) hx hb hts (mm_up i_DP) hown hK hw.1 0 rfl rfl 0 (by decide) (hts _ (List.mem_cons_of_mem _ q_207)) (fun _ h9 => h9) rfl d_DP_text_1 ?_
  obtain ⟨r_1, hu, hf⟩ := mm_b1_ok hf
  refine mm_ciT (wr := [(h_x, .inr (5, [.ref h_x_format, .ref h_x_paper, .ref h_x_arguments, .ref h_x_directive, .ref h_x_composer, .int x_argumentCount, .int x_lastFault, .int x_lastPlace, .int x_unnumbered, .int x_previousArgument])), (h_x_arguments, .inl (cQ, 9, .inr (.inr (.inr (.inr (fun q => some (pA q)))))))]) (va_runV (As := []) (rest := []) ⟨hx, hb, hml, hown, hts⟩ (c_Row_size l Zo dC dI cC cI cJ cQ x_format_kept_n x_format_kept x_format_length h_x_format h_x_format_kept H.size r_1 hu) (cwV 0 hts (mm_gV q_242 q_243 q_244 q_55 q_245) rfl rfl rfl (by decide +kernel) ⟨Nat.le_of_ble_eq_true rfl, Nat.le_of_ble_eq_true rfl⟩) (mm_pv Zo.1 hK hw hZ hA [1, 2] (by decide) rfl rfl (ci := 0) (q0 := 0) rfl rfl) rfl rfl hl.1 rfl (lv_room (Nat.le_of_ble_eq_true rfl)) d_DP_text_4 ⟨Nat.le_refl _, Nat.le_refl _⟩) hw hA [1, 2] [0, 3] rfl rfl rfl (by decide) (by decide) (fun H locs hw => ?_)
  have hw : mm_w (dC, dI) vwC A s ([(h_x, .inr (5, [.ref h_x_format, .ref h_x_paper, .ref h_x_arguments, .ref h_x_directive, .ref h_x_composer, .int x_argumentCount, .int x_lastFault, .int x_lastPlace, .int x_unnumbered, .int x_previousArgument])), (h_x_arguments, .inl (cQ, 9, .inr (.inr (.inr (.inr (fun q => some (pA q))))))), (h_x_format, .inr (0, [.ref h_x_format_kept, .int x_format_length])), (h_x_format_kept, .inl (cC, x_format_kept_n, .inl x_format_kept))] ++ apool pA pR pK ad cC x_kind x_value x_sz x_tlen x_tkept) H locs := hw
  refine lv_bipush (v := (64 : Int32)) hx hb d_DP_text_7 (by decide) ?_
  refine lv_icmp_le (tgt := 22) hx hb d_DP_text_9 (by decide) (fun hc => ?_) (fun hc => ?_)
  · replace hf := mm_ip hc hf
    refine lv_aload_n hx hb d_DP_text_22 rfl (lv_at hl 0 rfl) ?_
    refine va_gets hx hb ((Zo.2 _ _ _ hZ).2.1.1 4 (by decide)).1 hw.2.2 hown (hts _ (List.mem_cons_of_mem _ q_767)) (fun _ h9 => h9) d_DP_text_23 ?_
    refine lv_lconst (v := (0 : Int64)) hx hb d_DP_text_26 (by decide) ?_
    refine lv_iconst (v := (0 : Int32)) hx hb d_DP_text_27 (by decide) ?_
    obtain ⟨r_2, o_3, o_4, o_5, o_6, hu, hf⟩ := mm_b5_ok hf
    refine mm_ciP (wr := [(h_x_format, .inr (0, [.ref h_x_format_kept, .int x_format_length])), (h_x_format_kept, .inl (cC, x_format_kept_n, .inl x_format_kept))]) (va_runV (As := [.ref (ad (4)), .long (0 : Int64), .int (0 : Int32)]) (rest := []) ⟨hx, hb, hml, hown, hts⟩ (c_DP_addArgument l Zo dC dI cC cI cJ cQ x_argumentCount x_lastFault x_lastPlace x_unnumbered x_previousArgument (4) (0 : Int64) (0 : Int32) x_kind x_value x_sz x_tlen x_tkept (by decide) h_x h_x_arguments h_x_format h_x_paper h_x_directive h_x_composer pA pR pK H.size (r_2, o_3, o_4, o_5, o_6) hu) (cwV 3 hts (mm_gV q_259 q_261 q_0 q_54 q_262) rfl rfl rfl (by decide +kernel) ⟨Nat.le_of_ble_eq_true rfl, Nat.le_of_ble_eq_true rfl⟩) (mm_pvP Zo.1 hK hw hZ hA [0, 1] (by decide) rfl (ci := 5) (q0 := 0) rfl rfl) rfl rfl hl.1 rfl (lv_room (Nat.le_of_ble_eq_true rfl)) d_DP_text_28 ⟨Nat.le_refl _, Nat.le_refl _⟩) hw hA [0, 1] [2, 3] rfl rfl (by decide) (by decide) (fun H locs hw => ?_)
    have hw : mm_w (dC, dI) vwC A s ([(h_x_format, .inr (0, [.ref h_x_format_kept, .int x_format_length])), (h_x_format_kept, .inl (cC, x_format_kept_n, .inl x_format_kept)), (h_x, .inr (5, [.ref h_x_format, .ref h_x_paper, .ref h_x_arguments, .ref h_x_directive, .ref h_x_composer, .int o_3, .int x_lastFault, .int x_lastPlace, .int x_unnumbered, .int x_previousArgument])), (h_x_arguments, .inl (cQ, 9, .inr (.inr (.inr (.inr (fun q => some (pA q)))))))] ++ apool pA pR pK ad cC o_4 o_5 o_6 x_tlen x_tkept) H locs := hw
    refine lv_istore_n (lv' := [(1, .int r_2), (0, .ref h_x)]) hx hb d_DP_text_31 rfl hl (by decide) rfl (fun ls hl => ?_)
    refine lv_aload_n hx hb d_DP_text_32 rfl (lv_at hl 1 rfl) ?_
    refine lv_iload_n hx hb d_DP_text_33 rfl (lv_at hl 0 rfl) ?_
    obtain ⟨r_7, hu, hf⟩ := mm_b1_ok hf
    refine mm_cqT (wr := [(h_x_format, .inr (0, [.ref h_x_format_kept, .int x_format_length])), (h_x_format_kept, .inl (cC, x_format_kept_n, .inl x_format_kept))]) (va_runV (As := [.int r_2]) (rest := []) ⟨hx, hb, hml, hown, hts⟩ (c_DP_argumentNumbered l Zo dC dI cC cI cJ cQ o_3 x_lastFault x_lastPlace x_unnumbered x_previousArgument r_2 h_x h_x_arguments h_x_format h_x_paper h_x_directive h_x_composer pA pR pK H.size r_7 hu) (cwV 1 hts (mm_gV q_428 q_430 q_9 q_54 q_431) rfl rfl rfl (by decide +kernel) ⟨Nat.le_of_ble_eq_true rfl, Nat.le_of_ble_eq_true rfl⟩) (mm_pv Zo.1 hK hw hZ hA [2, 3] (by decide) rfl rfl (ci := 5) (q0 := 0) rfl rfl) rfl rfl hl.1 rfl (lv_room (Nat.le_of_ble_eq_true rfl)) d_DP_text_34 ⟨Nat.le_refl _, Nat.le_refl _⟩) hw hA [2, 3] [0, 1] rfl rfl rfl (by decide) (by decide) (fun H locs hw => ?_)
    have hw : mm_w (dC, dI) vwC A s ([(h_x_format, .inr (0, [.ref h_x_format_kept, .int x_format_length])), (h_x_format_kept, .inl (cC, x_format_kept_n, .inl x_format_kept)), (h_x, .inr (5, [.ref h_x_format, .ref h_x_paper, .ref h_x_arguments, .ref h_x_directive, .ref h_x_composer, .int o_3, .int x_lastFault, .int x_lastPlace, .int x_unnumbered, .int x_previousArgument])), (h_x_arguments, .inl (cQ, 9, .inr (.inr (.inr (.inr (fun q => some (pA q)))))))] ++ apool pA pR pK ad cC o_4 o_5 o_6 x_tlen x_tkept) H locs := hw
    rcases r_7 with _ | j_8
    · have hf := mm_oN hf
      refine W.eq (g2 := F0 m 37 ls [.null]) rfl ?_
      refine lv_astore_nN (lv' := [(2, .null), (1, .int r_2), (0, .ref h_x)]) hx hb d_DP_text_37 rfl hl (by decide) rfl (fun ls hl => ?_)
      refine lv_aload_nN hx hb d_DP_text_38 rfl (lv_at hl 0 rfl) ?_
      refine lv_ifnullN (tgt := 69) hx hb d_DP_text_39 (by decide) ?_
      refine lv_iload_n hx hb d_DP_text_69 rfl (lv_at hl 1 rfl) ?_
      obtain rfl := Option.some.inj hf
      exact mm_iret hx hb hr hlocks hK (mm_wsubT hw [2, 0, 1, 3] (by decide) rfl) rfl d_DP_text_70
    · have hf := mm_oS hf
      obtain ⟨hj_8, hf⟩ := mm_ask hf
      refine W.eq (g2 := F0 m 37 ls [.ref (pA j_8)]) rfl ?_
      refine lv_astore_n (lv' := [(2, .ref (pA j_8)), (1, .int r_2), (0, .ref h_x)]) hx hb d_DP_text_37 rfl hl (by decide) rfl (fun ls hl => ?_)
      refine lv_aload_n hx hb d_DP_text_38 rfl (lv_at hl 0 rfl) ?_
      refine lv_ifnull hx hb d_DP_text_39 ?_
      refine lv_aload_n hx hb d_DP_text_42 rfl (lv_at hl 0 rfl) ?_
      have hw := ap_in hj_8 hw
      have hw : mm_w (dC, dI) vwC A s ([(h_x_format, .inr (0, [.ref h_x_format_kept, .int x_format_length])), (h_x_format_kept, .inl (cC, x_format_kept_n, .inl x_format_kept)), (h_x, .inr (5, [.ref h_x_format, .ref h_x_paper, .ref h_x_arguments, .ref h_x_directive, .ref h_x_composer, .int o_3, .int x_lastFault, .int x_lastPlace, .int x_unnumbered, .int x_previousArgument])), (h_x_arguments, .inl (cQ, 9, .inr (.inr (.inr (.inr (fun q => some (pA q))))))), ((pA j_8), .inr (3, [.ref (ad (o_4 j_8)), .long (o_5 j_8), .int (o_6 j_8), .ref (pR j_8)])), ((pR j_8), .inr (0, [.ref (pK j_8), .int (x_tlen j_8)])), ((pK j_8), .inl (cC, 64, .inl (x_tkept j_8)))] ++ abut pA pR pK ad cC o_4 o_5 o_6 x_tlen x_tkept j_8) H _ := hw
      refine va_getN (D := (dC, dI)) (ci := 3) (v := .ref (pR j_8)) (C := "DirectivePrinter$Argument") (T := T_Argument) (N := 4) hx hb hts (mm_up i_Argument) hown hK hw.1 4 rfl rfl 3 (by decide) (va_Nw.use rfl ((Zo.2 _ _ _ hZ).1 _ (List.mem_of_getElem? (i := 7) rfl))) (fun _ h9 => h9) rfl d_DP_text_43 ?_
      refine lv_iconst (v := (0 : Int32)) hx hb d_DP_text_46 (by decide) ?_
      obtain ⟨o_9, hu, hf⟩ := mm_b1_ok hf
      refine mm_cvT (wr := [(h_x_format, .inr (0, [.ref h_x_format_kept, .int x_format_length])), (h_x_format_kept, .inl (cC, x_format_kept_n, .inl x_format_kept)), (h_x, .inr (5, [.ref h_x_format, .ref h_x_paper, .ref h_x_arguments, .ref h_x_directive, .ref h_x_composer, .int o_3, .int x_lastFault, .int x_lastPlace, .int x_unnumbered, .int x_previousArgument])), (h_x_arguments, .inl (cQ, 9, .inr (.inr (.inr (.inr (fun q => some (pA q))))))), ((pA j_8), .inr (3, [.ref (ad (o_4 j_8)), .long (o_5 j_8), .int (o_6 j_8), .ref (pR j_8)]))]) (va_runV (As := [.int (0 : Int32)]) (rest := []) ⟨hx, hb, hml, hown, hts⟩ (c_Row_cutTo l Zo dC dI cC cI cJ cQ (64) (x_tkept j_8) (x_tlen j_8) (0 : Int32) (pR j_8) (pK j_8) H.size o_9 hu) (cwV 1 hts (mm_gV q_246 q_247 q_248 q_55 q_249) rfl rfl rfl (by decide +kernel) ⟨Nat.le_of_ble_eq_true rfl, Nat.le_of_ble_eq_true rfl⟩) (mm_pv Zo.1 hK hw hZ hA [5, 6] (by decide) rfl rfl (ci := 0) (q0 := 0) rfl rfl) rfl rfl hl.1 rfl (lv_room (Nat.le_of_ble_eq_true rfl)) d_DP_text_47 ⟨Nat.le_refl _, Nat.le_refl _⟩) hw hA [5, 6] [0, 1, 2, 3, 4] rfl rfl rfl (by decide) (by decide) (fun H locs hw => ?_)
      have hw : mm_w (dC, dI) vwC A s ([(h_x_format, .inr (0, [.ref h_x_format_kept, .int x_format_length])), (h_x_format_kept, .inl (cC, x_format_kept_n, .inl x_format_kept)), (h_x, .inr (5, [.ref h_x_format, .ref h_x_paper, .ref h_x_arguments, .ref h_x_directive, .ref h_x_composer, .int o_3, .int x_lastFault, .int x_lastPlace, .int x_unnumbered, .int x_previousArgument])), (h_x_arguments, .inl (cQ, 9, .inr (.inr (.inr (.inr (fun q => some (pA q))))))), ((pA j_8), .inr (3, [.ref (ad (o_4 j_8)), .long (o_5 j_8), .int (o_6 j_8), .ref (pR j_8)])), ((pR j_8), .inr (0, [.ref (pK j_8), .int o_9])), ((pK j_8), .inl (cC, 64, .inl (x_tkept j_8)))] ++ abut pA pR pK ad cC o_4 o_5 o_6 x_tlen x_tkept j_8) H locs := hw
      refine lv_aload_n hx hb d_DP_text_50 rfl (lv_at hl 0 rfl) ?_
      refine va_getN (D := (dC, dI)) (ci := 3) (v := .ref (pR j_8)) (C := "DirectivePrinter$Argument") (T := T_Argument) (N := 4) hx hb hts (mm_up i_Argument) hown hK hw.1 4 rfl rfl 3 (by decide) (va_Nw.use rfl ((Zo.2 _ _ _ hZ).1 _ (List.mem_of_getElem? (i := 7) rfl))) (fun _ h9 => h9) rfl d_DP_text_51 ?_
      refine lv_aload_n hx hb d_DP_text_54 rfl (lv_at hl 2 rfl) ?_
      refine va_get (D := (dC, dI)) (ci := 5) (v := .ref h_x_format) (C := "DirectivePrinter") (T := T_DP) (N := 10) hx hb hts (mm_up i_DP) hown hK hw.1 2 rfl rfl 0 (by decide) (hts _ (List.mem_cons_of_mem _ q_207)) (fun _ h9 => h9) rfl d_DP_text_55 ?_
      obtain ⟨o_10, o_11, hu, hf⟩ := mm_b2_ok hf
      refine mm_cvT (wr := [(h_x, .inr (5, [.ref h_x_format, .ref h_x_paper, .ref h_x_arguments, .ref h_x_directive, .ref h_x_composer, .int o_3, .int x_lastFault, .int x_lastPlace, .int x_unnumbered, .int x_previousArgument])), (h_x_arguments, .inl (cQ, 9, .inr (.inr (.inr (.inr (fun q => some (pA q))))))), ((pA j_8), .inr (3, [.ref (ad (o_4 j_8)), .long (o_5 j_8), .int (o_6 j_8), .ref (pR j_8)]))]) (va_runV (As := [.ref h_x_format]) (rest := []) ⟨hx, hb, hml, hown, hts⟩ (c_Row_addRow l Zo dC dI cC cI cJ cQ N (64) (x_tkept j_8) o_9 x_format_kept_n x_format_kept x_format_length (pR j_8) (pK j_8) h_x_format h_x_format_kept H.size (o_10, o_11) hu) (cwV 1 hts (mm_gV q_768 q_511 q_512 q_55 q_513) rfl rfl rfl (by decide +kernel) ⟨Nat.le_of_ble_eq_true rfl, Nat.le_of_ble_eq_true rfl⟩) (mm_pv Zo.1 hK hw hZ hA [5, 6, 0, 1] (by decide) rfl rfl (ci := 0) (q0 := 0) rfl rfl) rfl rfl hl.1 rfl (lv_room (Nat.le_of_ble_eq_true rfl)) d_DP_text_58 ⟨Nat.le_refl _, Nat.le_refl _⟩) hw hA [5, 6, 0, 1] [2, 3, 4] rfl rfl rfl (by decide) (by decide) (fun H locs hw => ?_)
      have hw : mm_w (dC, dI) vwC A s ([(h_x, .inr (5, [.ref h_x_format, .ref h_x_paper, .ref h_x_arguments, .ref h_x_directive, .ref h_x_composer, .int o_3, .int x_lastFault, .int x_lastPlace, .int x_unnumbered, .int x_previousArgument])), (h_x_arguments, .inl (cQ, 9, .inr (.inr (.inr (.inr (fun q => some (pA q))))))), ((pA j_8), .inr (3, [.ref (ad (o_4 j_8)), .long (o_5 j_8), .int (o_6 j_8), .ref (pR j_8)])), ((pR j_8), .inr (0, [.ref (pK j_8), .int o_11])), ((pK j_8), .inl (cC, 64, .inl o_10)), (h_x_format, .inr (0, [.ref h_x_format_kept, .int x_format_length])), (h_x_format_kept, .inl (cC, x_format_kept_n, .inl x_format_kept))] ++ abut pA pR pK ad cC o_4 o_5 o_6 x_tlen x_tkept j_8) H locs := hw
      refine lv_aload_n hx hb d_DP_text_61 rfl (lv_at hl 2 rfl) ?_
      refine va_get (D := (dC, dI)) (ci := 5) (v := .ref h_x_format) (C := "DirectivePrinter") (T := T_DP) (N := 10) hx hb hts (mm_up i_DP) hown hK hw.1 0 rfl rfl 0 (by decide) (hts _ (List.mem_cons_of_mem _ q_207)) (fun _ h9 => h9) rfl d_DP_text_62 ?_
      refine lv_iconst (v := (0 : Int32)) hx hb d_DP_text_65 (by decide) ?_
      obtain ⟨o_12, hu, hf⟩ := mm_b1_ok hf
      refine mm_cvT (wr := [(h_x, .inr (5, [.ref h_x_format, .ref h_x_paper, .ref h_x_arguments, .ref h_x_directive, .ref h_x_composer, .int o_3, .int x_lastFault, .int x_lastPlace, .int x_unnumbered, .int x_previousArgument])), (h_x_arguments, .inl (cQ, 9, .inr (.inr (.inr (.inr (fun q => some (pA q))))))), ((pA j_8), .inr (3, [.ref (ad (o_4 j_8)), .long (o_5 j_8), .int (o_6 j_8), .ref (pR j_8)])), ((pR j_8), .inr (0, [.ref (pK j_8), .int o_11])), ((pK j_8), .inl (cC, 64, .inl o_10))]) (va_runV (As := [.int (0 : Int32)]) (rest := []) ⟨hx, hb, hml, hown, hts⟩ (c_Row_cutTo l Zo dC dI cC cI cJ cQ x_format_kept_n x_format_kept x_format_length (0 : Int32) h_x_format h_x_format_kept H.size o_12 hu) (cwV 1 hts (mm_gV q_246 q_247 q_248 q_55 q_249) rfl rfl rfl (by decide +kernel) ⟨Nat.le_of_ble_eq_true rfl, Nat.le_of_ble_eq_true rfl⟩) (mm_pv Zo.1 hK hw hZ hA [5, 6] (by decide) rfl rfl (ci := 0) (q0 := 0) rfl rfl) rfl rfl hl.1 rfl (lv_room (Nat.le_of_ble_eq_true rfl)) d_DP_text_66 ⟨Nat.le_refl _, Nat.le_refl _⟩) hw hA [5, 6] [0, 1, 2, 3, 4] rfl rfl rfl (by decide) (by decide) (fun H locs hw => ?_)
      have hw : mm_w (dC, dI) vwC A s ([(h_x, .inr (5, [.ref h_x_format, .ref h_x_paper, .ref h_x_arguments, .ref h_x_directive, .ref h_x_composer, .int o_3, .int x_lastFault, .int x_lastPlace, .int x_unnumbered, .int x_previousArgument])), (h_x_arguments, .inl (cQ, 9, .inr (.inr (.inr (.inr (fun q => some (pA q))))))), ((pA j_8), .inr (3, [.ref (ad (o_4 j_8)), .long (o_5 j_8), .int (o_6 j_8), .ref (pR j_8)])), ((pR j_8), .inr (0, [.ref (pK j_8), .int o_11])), ((pK j_8), .inl (cC, 64, .inl o_10)), (h_x_format, .inr (0, [.ref h_x_format_kept, .int o_12])), (h_x_format_kept, .inl (cC, x_format_kept_n, .inl x_format_kept))] ++ abut pA pR pK ad cC o_4 o_5 o_6 x_tlen x_tkept j_8) H locs := hw
      refine lv_iload_n hx hb d_DP_text_69 rfl (lv_at hl 1 rfl) ?_
      have hw := ap_out2 (X := [(h_x, .inr (5, [.ref h_x_format, .ref h_x_paper, .ref h_x_arguments, .ref h_x_directive, .ref h_x_composer, .int o_3, .int x_lastFault, .int x_lastPlace, .int x_unnumbered, .int x_previousArgument])), (h_x_arguments, .inl (cQ, 9, .inr (.inr (.inr (.inr (fun q => some (pA q))))))), (h_x_format, .inr (0, [.ref h_x_format_kept, .int o_12])), (h_x_format_kept, .inl (cC, x_format_kept_n, .inl x_format_kept))]) hj_8 (mm_wsubT hw [0, 1, 5, 6, 2, 3, 4] (by decide) rfl)
      have hw : mm_w (dC, dI) vwC A s ([(h_x, .inr (5, [.ref h_x_format, .ref h_x_paper, .ref h_x_arguments, .ref h_x_directive, .ref h_x_composer, .int o_3, .int x_lastFault, .int x_lastPlace, .int x_unnumbered, .int x_previousArgument])), (h_x_arguments, .inl (cQ, 9, .inr (.inr (.inr (.inr (fun q => some (pA q))))))), (h_x_format, .inr (0, [.ref h_x_format_kept, .int o_12])), (h_x_format_kept, .inl (cC, x_format_kept_n, .inl x_format_kept))] ++ apool pA pR pK ad cC o_4 o_5 o_6 (va_up x_tlen j_8 o_11) (va_up x_tkept j_8 o_10)) H _ := hw
      obtain rfl := Option.some.inj hf
      exact mm_iret hx hb hr hlocks hK (mm_wsubT hw [0, 2, 3, 1] (by decide) rfl) rfl d_DP_text_70
  · replace hf := mm_in hc hf
    cases hf
end
