section
variable {p : Program} {l : Launch} {e : Env} {s : State} {m : MethodId} {args : Array Value} {below : List Frame} {meth : Method} {c : Code} {dC : Nat → ClassId} {dI : Nat → Nat → Nat} {cC cI cJ cQ : ClassId} {A : Nat → Prop} {Z : (Nat → Prop) → State → Heap → Prop} {ad adK adV : Nat → Nat}
abbrev b_DP_wipe : ByteArray := prog_1_method_3_code
abbrev y_DP_wipe : MethodName := ⟨"DirectivePrinter", "wipe", "()I"⟩
def w_DP_wipe : List Cond := .code y_DP_wipe b_DP_wipe 2 (some .int) :: lw_g
theorem d_DP_wipe_0 : decode b_DP_wipe 0 = .ok (.aload_n 0, 1) := by decide +kernel
theorem d_DP_wipe_1 : decode b_DP_wipe 1 = .ok (.getfield 14, 3) := by decide +kernel
theorem d_DP_wipe_4 : decode b_DP_wipe 4 = .ok (.invokevirtual 66, 3) := by decide +kernel
theorem d_DP_wipe_7 : decode b_DP_wipe 7 = .ok (.istore_n 1, 1) := by decide +kernel
theorem d_DP_wipe_8 : decode b_DP_wipe 8 = .ok (.aload_n 0, 1) := by decide +kernel
theorem d_DP_wipe_9 : decode b_DP_wipe 9 = .ok (.getfield 14, 3) := by decide +kernel
theorem d_DP_wipe_12 : decode b_DP_wipe 12 = .ok (.iconst 0, 1) := by decide +kernel
theorem d_DP_wipe_13 : decode b_DP_wipe 13 = .ok (.invokevirtual 76, 3) := by decide +kernel
theorem d_DP_wipe_16 : decode b_DP_wipe 16 = .ok (.iload_n 1, 1) := by decide +kernel
theorem d_DP_wipe_17 : decode b_DP_wipe 17 = .ok (.ireturn, 1) := by decide +kernel
abbrev b_DP_clear : ByteArray := prog_1_method_4_code
abbrev y_DP_clear : MethodName := ⟨"DirectivePrinter", "clear", "()I"⟩
def w_DP_clear : List Cond := .code y_DP_clear b_DP_clear 2 (some .int) :: lw_g
theorem d_DP_clear_0 : decode b_DP_clear 0 = .ok (.aload_n 0, 1) := by decide +kernel
theorem d_DP_clear_1 : decode b_DP_clear 1 = .ok (.getfield 43, 3) := by decide +kernel
theorem d_DP_clear_4 : decode b_DP_clear 4 = .ok (.istore_n 1, 1) := by decide +kernel
theorem d_DP_clear_5 : decode b_DP_clear 5 = .ok (.aload_n 0, 1) := by decide +kernel
theorem d_DP_clear_6 : decode b_DP_clear 6 = .ok (.iconst 0, 1) := by decide +kernel
theorem d_DP_clear_7 : decode b_DP_clear 7 = .ok (.putfield 43, 3) := by decide +kernel
theorem d_DP_clear_10 : decode b_DP_clear 10 = .ok (.iload_n 1, 1) := by decide +kernel
theorem d_DP_clear_11 : decode b_DP_clear 11 = .ok (.ireturn, 1) := by decide +kernel
abbrev b_DP_printed : ByteArray := prog_1_method_12_code
abbrev y_DP_printed : MethodName := ⟨"DirectivePrinter", "printed", "(I)I"⟩
def w_DP_printed : List Cond := .code y_DP_printed b_DP_printed 2 (some .int) :: lw_g
theorem d_DP_printed_0 : decode b_DP_printed 0 = .ok (.aload_n 0, 1) := by decide +kernel
theorem d_DP_printed_1 : decode b_DP_printed 1 = .ok (.getfield 42, 3) := by decide +kernel
theorem d_DP_printed_4 : decode b_DP_printed 4 = .ok (.iload_n 1, 1) := by decide +kernel
theorem d_DP_printed_5 : decode b_DP_printed 5 = .ok (.invokevirtual 126, 3) := by decide +kernel
theorem d_DP_printed_8 : decode b_DP_printed 8 = .ok (.ireturn, 1) := by decide +kernel
abbrev b_DP_fault : ByteArray := prog_1_method_13_code
abbrev y_DP_fault : MethodName := ⟨"DirectivePrinter", "fault", "()I"⟩
def w_DP_fault : List Cond := .code y_DP_fault b_DP_fault 1 (some .int) :: lw_g
theorem d_DP_fault_0 : decode b_DP_fault 0 = .ok (.aload_n 0, 1) := by decide +kernel
theorem d_DP_fault_1 : decode b_DP_fault 1 = .ok (.getfield 47, 3) := by decide +kernel
theorem d_DP_fault_4 : decode b_DP_fault 4 = .ok (.ireturn, 1) := by decide +kernel
abbrev b_DP_place : ByteArray := prog_1_method_14_code
abbrev y_DP_place : MethodName := ⟨"DirectivePrinter", "place", "()I"⟩
def w_DP_place : List Cond := .code y_DP_place b_DP_place 1 (some .int) :: lw_g
theorem d_DP_place_0 : decode b_DP_place 0 = .ok (.aload_n 0, 1) := by decide +kernel
theorem d_DP_place_1 : decode b_DP_place 1 = .ok (.getfield 50, 3) := by decide +kernel
theorem d_DP_place_4 : decode b_DP_place 4 = .ok (.ireturn, 1) := by decide +kernel
abbrev b_DP_faultOfLength : ByteArray := prog_1_method_21_code
abbrev y_DP_faultOfLength : MethodName := ⟨"DirectivePrinter", "faultOfLength", "()I"⟩
def w_DP_faultOfLength : List Cond := .code y_DP_faultOfLength b_DP_faultOfLength 1 (some .int) :: lw_g
theorem d_DP_faultOfLength_0 : decode b_DP_faultOfLength 0 = .ok (.aload_n 0, 1) := by decide +kernel
theorem d_DP_faultOfLength_1 : decode b_DP_faultOfLength 1 = .ok (.getfield 42, 3) := by decide +kernel
theorem d_DP_faultOfLength_4 : decode b_DP_faultOfLength 4 = .ok (.invokevirtual 66, 3) := by decide +kernel
theorem d_DP_faultOfLength_7 : decode b_DP_faultOfLength 7 = .ok (.sipush 4096, 3) := by decide +kernel
theorem d_DP_faultOfLength_10 : decode b_DP_faultOfLength 10 = .ok (.if_icmp .le 8, 3) := by decide +kernel
theorem d_DP_faultOfLength_13 : decode b_DP_faultOfLength 13 = .ok (.bipush 12, 2) := by decide +kernel
theorem d_DP_faultOfLength_15 : decode b_DP_faultOfLength 15 = .ok (.goto 4, 3) := by decide +kernel
theorem d_DP_faultOfLength_18 : decode b_DP_faultOfLength 18 = .ok (.iconst 0, 1) := by decide +kernel
theorem d_DP_faultOfLength_19 : decode b_DP_faultOfLength 19 = .ok (.ireturn, 1) := by decide +kernel
abbrev b_DP_blame : ByteArray := prog_1_method_22_code
abbrev y_DP_blame : MethodName := ⟨"DirectivePrinter", "blame", "(II)V"⟩
def w_DP_blame : List Cond := .code y_DP_blame b_DP_blame 3 none :: lw_g
theorem d_DP_blame_0 : decode b_DP_blame 0 = .ok (.iload_n 1, 1) := by decide +kernel
theorem d_DP_blame_1 : decode b_DP_blame 1 = .ok (.ifCond .eq 13, 3) := by decide +kernel
theorem d_DP_blame_4 : decode b_DP_blame 4 = .ok (.aload_n 0, 1) := by decide +kernel
theorem d_DP_blame_5 : decode b_DP_blame 5 = .ok (.iload_n 1, 1) := by decide +kernel
theorem d_DP_blame_6 : decode b_DP_blame 6 = .ok (.putfield 47, 3) := by decide +kernel
theorem d_DP_blame_9 : decode b_DP_blame 9 = .ok (.aload_n 0, 1) := by decide +kernel
theorem d_DP_blame_10 : decode b_DP_blame 10 = .ok (.iload_n 2, 1) := by decide +kernel
theorem d_DP_blame_11 : decode b_DP_blame 11 = .ok (.putfield 50, 3) := by decide +kernel
theorem d_DP_blame_14 : decode b_DP_blame 14 = .ok (.return_, 1) := by decide +kernel
abbrev b_DP_runCharacter : ByteArray := prog_1_method_17_code
abbrev y_DP_runCharacter : MethodName := ⟨"DirectivePrinter", "runCharacter", "(I)V"⟩
def w_DP_runCharacter : List Cond := .code y_DP_runCharacter b_DP_runCharacter 2 none :: lw_g
theorem d_DP_runCharacter_0 : decode b_DP_runCharacter 0 = .ok (.aload_n 0, 1) := by decide +kernel
theorem d_DP_runCharacter_1 : decode b_DP_runCharacter 1 = .ok (.getfield 42, 3) := by decide +kernel
theorem d_DP_runCharacter_4 : decode b_DP_runCharacter 4 = .ok (.aload_n 0, 1) := by decide +kernel
theorem d_DP_runCharacter_5 : decode b_DP_runCharacter 5 = .ok (.getfield 14, 3) := by decide +kernel
theorem d_DP_runCharacter_8 : decode b_DP_runCharacter 8 = .ok (.iload_n 1, 1) := by decide +kernel
theorem d_DP_runCharacter_9 : decode b_DP_runCharacter 9 = .ok (.invokevirtual 126, 3) := by decide +kernel
theorem d_DP_runCharacter_12 : decode b_DP_runCharacter 12 = .ok (.i2c, 1) := by decide +kernel
theorem d_DP_runCharacter_13 : decode b_DP_runCharacter 13 = .ok (.invokevirtual 72, 3) := by decide +kernel
theorem d_DP_runCharacter_16 : decode b_DP_runCharacter 16 = .ok (.aload_n 0, 1) := by decide +kernel
theorem d_DP_runCharacter_17 : decode b_DP_runCharacter 17 = .ok (.aload_n 0, 1) := by decide +kernel
theorem d_DP_runCharacter_18 : decode b_DP_runCharacter 18 = .ok (.invokevirtual 151, 3) := by decide +kernel
theorem d_DP_runCharacter_21 : decode b_DP_runCharacter 21 = .ok (.iload_n 1, 1) := by decide +kernel
theorem d_DP_runCharacter_22 : decode b_DP_runCharacter 22 = .ok (.invokevirtual 154, 3) := by decide +kernel
theorem d_DP_runCharacter_25 : decode b_DP_runCharacter 25 = .ok (.return_, 1) := by decide +kernel
abbrev b_DP_chooseArgument : ByteArray := prog_1_method_19_code
abbrev y_DP_chooseArgument : MethodName := ⟨"DirectivePrinter", "chooseArgument", "()I"⟩
def w_DP_chooseArgument : List Cond := .code y_DP_chooseArgument b_DP_chooseArgument 1 (some .int) :: lw_g
theorem d_DP_chooseArgument_0 : decode b_DP_chooseArgument 0 = .ok (.aload_n 0, 1) := by decide +kernel
theorem d_DP_chooseArgument_1 : decode b_DP_chooseArgument 1 = .ok (.getfield 28, 3) := by decide +kernel
theorem d_DP_chooseArgument_4 : decode b_DP_chooseArgument 4 = .ok (.bipush 64, 2) := by decide +kernel
theorem d_DP_chooseArgument_6 : decode b_DP_chooseArgument 6 = .ok (.invokevirtual 183, 3) := by decide +kernel
theorem d_DP_chooseArgument_9 : decode b_DP_chooseArgument 9 = .ok (.ifCond .eq 8, 3) := by decide +kernel
theorem d_DP_chooseArgument_12 : decode b_DP_chooseArgument 12 = .ok (.aload_n 0, 1) := by decide +kernel
theorem d_DP_chooseArgument_13 : decode b_DP_chooseArgument 13 = .ok (.getfield 56, 3) := by decide +kernel
theorem d_DP_chooseArgument_16 : decode b_DP_chooseArgument 16 = .ok (.ireturn, 1) := by decide +kernel
theorem d_DP_chooseArgument_17 : decode b_DP_chooseArgument 17 = .ok (.aload_n 0, 1) := by decide +kernel
theorem d_DP_chooseArgument_18 : decode b_DP_chooseArgument 18 = .ok (.getfield 28, 3) := by decide +kernel
theorem d_DP_chooseArgument_21 : decode b_DP_chooseArgument 21 = .ok (.getfield 187, 3) := by decide +kernel
theorem d_DP_chooseArgument_24 : decode b_DP_chooseArgument 24 = .ok (.iconst (-1), 1) := by decide +kernel
theorem d_DP_chooseArgument_25 : decode b_DP_chooseArgument 25 = .ok (.if_icmp .eq 11, 3) := by decide +kernel
theorem d_DP_chooseArgument_28 : decode b_DP_chooseArgument 28 = .ok (.aload_n 0, 1) := by decide +kernel
theorem d_DP_chooseArgument_29 : decode b_DP_chooseArgument 29 = .ok (.getfield 28, 3) := by decide +kernel
theorem d_DP_chooseArgument_32 : decode b_DP_chooseArgument 32 = .ok (.getfield 187, 3) := by decide +kernel
theorem d_DP_chooseArgument_35 : decode b_DP_chooseArgument 35 = .ok (.ireturn, 1) := by decide +kernel
theorem d_DP_chooseArgument_36 : decode b_DP_chooseArgument 36 = .ok (.aload_n 0, 1) := by decide +kernel
theorem d_DP_chooseArgument_37 : decode b_DP_chooseArgument 37 = .ok (.dup, 1) := by decide +kernel
theorem d_DP_chooseArgument_38 : decode b_DP_chooseArgument 38 = .ok (.getfield 53, 3) := by decide +kernel
theorem d_DP_chooseArgument_41 : decode b_DP_chooseArgument 41 = .ok (.iconst 1, 1) := by decide +kernel
theorem d_DP_chooseArgument_42 : decode b_DP_chooseArgument 42 = .ok (.iadd, 1) := by decide +kernel
theorem d_DP_chooseArgument_43 : decode b_DP_chooseArgument 43 = .ok (.putfield 53, 3) := by decide +kernel
theorem d_DP_chooseArgument_46 : decode b_DP_chooseArgument 46 = .ok (.aload_n 0, 1) := by decide +kernel
theorem d_DP_chooseArgument_47 : decode b_DP_chooseArgument 47 = .ok (.getfield 53, 3) := by decide +kernel
theorem d_DP_chooseArgument_50 : decode b_DP_chooseArgument 50 = .ok (.ireturn, 1) := by decide +kernel
abbrev b_DP_faultOfArgument : ByteArray := prog_1_method_20_code
abbrev y_DP_faultOfArgument : MethodName := ⟨"DirectivePrinter", "faultOfArgument", "(LDirectivePrinter$Argument;)I"⟩
def w_DP_faultOfArgument : List Cond := .code y_DP_faultOfArgument b_DP_faultOfArgument 2 (some .int) :: lw_g
theorem d_DP_faultOfArgument_0 : decode b_DP_faultOfArgument 0 = .ok (.aload_n 1, 1) := by decide +kernel
theorem d_DP_faultOfArgument_1 : decode b_DP_faultOfArgument 1 = .ok (.ifnonnull 8, 3) := by decide +kernel
theorem d_DP_faultOfArgument_4 : decode b_DP_faultOfArgument 4 = .ok (.bipush 9, 2) := by decide +kernel
theorem d_DP_faultOfArgument_6 : decode b_DP_faultOfArgument 6 = .ok (.goto 14, 3) := by decide +kernel
theorem d_DP_faultOfArgument_9 : decode b_DP_faultOfArgument 9 = .ok (.aload_n 1, 1) := by decide +kernel
theorem d_DP_faultOfArgument_10 : decode b_DP_faultOfArgument 10 = .ok (.aload_n 0, 1) := by decide +kernel
theorem d_DP_faultOfArgument_11 : decode b_DP_faultOfArgument 11 = .ok (.getfield 28, 3) := by decide +kernel
theorem d_DP_faultOfArgument_14 : decode b_DP_faultOfArgument 14 = .ok (.invokevirtual 190, 3) := by decide +kernel
theorem d_DP_faultOfArgument_17 : decode b_DP_faultOfArgument 17 = .ok (.invokevirtual 194, 3) := by decide +kernel
theorem d_DP_faultOfArgument_20 : decode b_DP_faultOfArgument 20 = .ok (.ireturn, 1) := by decide +kernel
set_option maxRecDepth 100000 in
theorem q_207 : (.fieldLink "DirectivePrinter" 14 "DirectivePrinter" "format" "LDirectivePrinter$Row;" : Cond) ∈ lw_g := List.mem_filter.mpr ⟨List.mem_of_getElem? (i := 207) (by decide +kernel), by decide +kernel⟩
set_option maxRecDepth 100000 in
theorem q_242 : (.methodLink "DirectivePrinter" 66 ⟨"DirectivePrinter$Row", "size", "()I"⟩ : Cond) ∈ lw_g := List.mem_filter.mpr ⟨List.mem_of_getElem? (i := 242) (by decide +kernel), by decide +kernel⟩
set_option maxRecDepth 100000 in
theorem q_246 : (.methodLink "DirectivePrinter" 76 ⟨"DirectivePrinter$Row", "cutTo", "(I)V"⟩ : Cond) ∈ lw_g := List.mem_filter.mpr ⟨List.mem_of_getElem? (i := 246) (by decide +kernel), by decide +kernel⟩
set_option maxRecDepth 100000 in
theorem q_212 : (.fieldLink "DirectivePrinter" 43 "DirectivePrinter" "argumentCount" "I" : Cond) ∈ lw_g := List.mem_filter.mpr ⟨List.mem_of_getElem? (i := 212) (by decide +kernel), by decide +kernel⟩
set_option maxRecDepth 100000 in
theorem q_208 : (.fieldLink "DirectivePrinter" 42 "DirectivePrinter" "paper" "LDirectivePrinter$Row;" : Cond) ∈ lw_g := List.mem_filter.mpr ⟨List.mem_of_getElem? (i := 208) (by decide +kernel), by decide +kernel⟩
set_option maxRecDepth 100000 in
theorem q_273 : (.methodLink "DirectivePrinter" 126 ⟨"DirectivePrinter$Row", "at", "(I)I"⟩ : Cond) ∈ lw_g := List.mem_filter.mpr ⟨List.mem_of_getElem? (i := 273) (by decide +kernel), by decide +kernel⟩
set_option maxRecDepth 100000 in
theorem q_213 : (.fieldLink "DirectivePrinter" 47 "DirectivePrinter" "lastFault" "I" : Cond) ∈ lw_g := List.mem_filter.mpr ⟨List.mem_of_getElem? (i := 213) (by decide +kernel), by decide +kernel⟩
set_option maxRecDepth 100000 in
theorem q_214 : (.fieldLink "DirectivePrinter" 50 "DirectivePrinter" "lastPlace" "I" : Cond) ∈ lw_g := List.mem_filter.mpr ⟨List.mem_of_getElem? (i := 214) (by decide +kernel), by decide +kernel⟩
set_option maxRecDepth 100000 in
theorem q_636 : (.methodLink "DirectivePrinter" 72 ⟨"DirectivePrinter$Row", "add", "(C)V"⟩ : Cond) ∈ lw_g := List.mem_filter.mpr ⟨List.mem_of_getElem? (i := 636) (by decide +kernel), by decide +kernel⟩
set_option maxRecDepth 100000 in
theorem q_619 : (.methodLink "DirectivePrinter" 151 ⟨"DirectivePrinter", "faultOfLength", "()I"⟩ : Cond) ∈ lw_g := List.mem_filter.mpr ⟨List.mem_of_getElem? (i := 619) (by decide +kernel), by decide +kernel⟩
set_option maxRecDepth 100000 in
theorem q_621 : (.instanceMethod ⟨"DirectivePrinter", "faultOfLength", "()I"⟩ : Cond) ∈ lw_g := List.mem_filter.mpr ⟨List.mem_of_getElem? (i := 621) (by decide +kernel), by decide +kernel⟩
set_option maxRecDepth 100000 in
theorem q_23 : (.selects "DirectivePrinter" ⟨"DirectivePrinter", "faultOfLength", "()I"⟩ ⟨"DirectivePrinter", "faultOfLength", "()I"⟩ : Cond) ∈ lw_g := List.mem_filter.mpr ⟨List.mem_of_getElem? (i := 23) (by decide +kernel), by decide +kernel⟩
set_option maxRecDepth 100000 in
theorem q_54 : (.initialized "DirectivePrinter" : Cond) ∈ lw_g := List.mem_filter.mpr ⟨List.mem_of_getElem? (i := 54) (by decide +kernel), by decide +kernel⟩
set_option maxRecDepth 100000 in
theorem q_622 : (.code ⟨"DirectivePrinter", "faultOfLength", "()I"⟩ prog_1_method_21_code 1 (Option.some FieldType.int) : Cond) ∈ lw_g := List.mem_filter.mpr ⟨List.mem_of_getElem? (i := 622) (rfl), by decide +kernel⟩
set_option maxRecDepth 100000 in
theorem q_623 : (.methodLink "DirectivePrinter" 154 ⟨"DirectivePrinter", "blame", "(II)V"⟩ : Cond) ∈ lw_g := List.mem_filter.mpr ⟨List.mem_of_getElem? (i := 623) (by decide +kernel), by decide +kernel⟩
set_option maxRecDepth 100000 in
theorem q_625 : (.instanceMethod ⟨"DirectivePrinter", "blame", "(II)V"⟩ : Cond) ∈ lw_g := List.mem_filter.mpr ⟨List.mem_of_getElem? (i := 625) (by decide +kernel), by decide +kernel⟩
set_option maxRecDepth 100000 in
theorem q_24 : (.selects "DirectivePrinter" ⟨"DirectivePrinter", "blame", "(II)V"⟩ ⟨"DirectivePrinter", "blame", "(II)V"⟩ : Cond) ∈ lw_g := List.mem_filter.mpr ⟨List.mem_of_getElem? (i := 24) (by decide +kernel), by decide +kernel⟩
set_option maxRecDepth 100000 in
theorem q_626 : (.code ⟨"DirectivePrinter", "blame", "(II)V"⟩ prog_1_method_22_code 3 (Option.none : Option FieldType) : Cond) ∈ lw_g := List.mem_filter.mpr ⟨List.mem_of_getElem? (i := 626) (rfl), by decide +kernel⟩
set_option maxRecDepth 100000 in
theorem q_210 : (.fieldLink "DirectivePrinter" 28 "DirectivePrinter" "directive" "LDirectivePrinter$Directive;" : Cond) ∈ lw_g := List.mem_filter.mpr ⟨List.mem_of_getElem? (i := 210) (by decide +kernel), by decide +kernel⟩
set_option maxRecDepth 100000 in
theorem q_427 : (.methodLink "DirectivePrinter" 183 ⟨"DirectivePrinter$Directive", "has", "(I)Z"⟩ : Cond) ∈ lw_g := List.mem_filter.mpr ⟨List.mem_of_getElem? (i := 427) (by decide +kernel), by decide +kernel⟩
set_option maxRecDepth 100000 in
theorem q_215 : (.fieldLink "DirectivePrinter" 53 "DirectivePrinter" "unnumbered" "I" : Cond) ∈ lw_g := List.mem_filter.mpr ⟨List.mem_of_getElem? (i := 215) (by decide +kernel), by decide +kernel⟩
set_option maxRecDepth 100000 in
theorem q_216 : (.fieldLink "DirectivePrinter" 56 "DirectivePrinter" "previousArgument" "I" : Cond) ∈ lw_g := List.mem_filter.mpr ⟨List.mem_of_getElem? (i := 216) (by decide +kernel), by decide +kernel⟩
set_option maxRecDepth 100000 in
theorem q_436 : (.methodLink "DirectivePrinter" 190 ⟨"DirectivePrinter$Directive", "smallConversion", "()C"⟩ : Cond) ∈ lw_g := List.mem_filter.mpr ⟨List.mem_of_getElem? (i := 436) (by decide +kernel), by decide +kernel⟩
set_option maxRecDepth 100000 in
theorem q_437 : (.methodLink "DirectivePrinter" 194 ⟨"DirectivePrinter$Argument", "faultWith", "(C)I"⟩ : Cond) ∈ lw_g := List.mem_filter.mpr ⟨List.mem_of_getElem? (i := 437) (by decide +kernel), by decide +kernel⟩
set_option maxRecDepth 100000 in
theorem q_438 : (.instanceMethod ⟨"DirectivePrinter$Argument", "faultWith", "(C)I"⟩ : Cond) ∈ lw_g := List.mem_filter.mpr ⟨List.mem_of_getElem? (i := 438) (by decide +kernel), by decide +kernel⟩
set_option maxRecDepth 100000 in
theorem q_439 : (.selects "DirectivePrinter$Argument" ⟨"DirectivePrinter$Argument", "faultWith", "(C)I"⟩ ⟨"DirectivePrinter$Argument", "faultWith", "(C)I"⟩ : Cond) ∈ lw_g := List.mem_filter.mpr ⟨List.mem_of_getElem? (i := 439) (by decide +kernel), by decide +kernel⟩
set_option maxRecDepth 100000 in
theorem q_440 : (.code ⟨"DirectivePrinter$Argument", "faultWith", "(C)I"⟩ prog_2_method_4_code 2 (Option.some FieldType.int) : Cond) ∈ lw_g := List.mem_filter.mpr ⟨List.mem_of_getElem? (i := 440) (rfl), by decide +kernel⟩
/-! DirectivePrinter.wipe()I -/
def f_DP_wipe (x_format_length : Int32) : Option (Int32 × Int32) := mm_b1 (f_Row_size x_format_length) (fun r_1 => mm_b1 (f_Row_cutTo x_format_length (0 : Int32)) (fun o_2 => some (r_1, o_2)))
abbrev r_DP_wipe : Room := { frames := 1, cells := 0, slots := 0, locals := 21 }
set_option maxHeartbeats 4000000 in
set_option maxRecDepth 100000 in
theorem c_DP_wipe (l : Launch) {Z : (Nat → Prop) → State → Heap → Prop} {ad adK adV : Nat → Nat} (Zo : mm_Zx Z ad adK adV) (dC : Nat → ClassId) (dI : Nat → Nat → Nat) (cC cI cJ cQ : ClassId) (x_format_kept_n : Nat) (x_format_kept : Nat → Int32) (x_format_length : Int32) (x_argumentCount : Int32) (x_lastFault : Int32) (x_lastPlace : Int32) (x_unnumbered : Int32) (x_previousArgument : Int32) (h_x h_x_format h_x_format_kept h_x_paper h_x_arguments h_x_directive h_x_composer : Nat) (sz : Nat) (out : Int32 × Int32) (hf : f_DP_wipe x_format_length = some out) : Met l y_DP_wipe w_DP_wipe r_DP_wipe (mm_pre (dC, dI) vwC (tyl cC cI cJ cQ) Z [(h_x, .inr (5, [.ref h_x_format, .ref h_x_paper, .ref h_x_arguments, .ref h_x_directive, .ref h_x_composer, .int x_argumentCount, .int x_lastFault, .int x_lastPlace, .int x_unnumbered, .int x_previousArgument])), (h_x_format, .inr (0, [.ref h_x_format_kept, .int x_format_length])), (h_x_format_kept, .inl (cC, x_format_kept_n, .inl x_format_kept))] sz [.ref h_x]) (mm_qi (dC, dI) vwC (tyl cC cI cJ cQ) (va_A [(h_x, .inr (5, [.ref h_x_format, .ref h_x_paper, .ref h_x_arguments, .ref h_x_directive, .ref h_x_composer, .int x_argumentCount, .int x_lastFault, .int x_lastPlace, .int x_unnumbered, .int x_previousArgument])), (h_x_format, .inr (0, [.ref h_x_format_kept, .int x_format_length])), (h_x_format_kept, .inl (cC, x_format_kept_n, .inl x_format_kept))] sz) [(h_x, .inr (5, [.ref h_x_format, .ref h_x_paper, .ref h_x_arguments, .ref h_x_directive, .ref h_x_composer, .int x_argumentCount, .int x_lastFault, .int x_lastPlace, .int x_unnumbered, .int x_previousArgument])), (h_x_format, .inr (0, [.ref h_x_format_kept, .int out.2])), (h_x_format_kept, .inl (cC, x_format_kept_n, .inl x_format_kept))] out.1) 0 0 (va_A [(h_x, .inr (5, [.ref h_x_format, .ref h_x_paper, .ref h_x_arguments, .ref h_x_directive, .ref h_x_composer, .int x_argumentCount, .int x_lastFault, .int x_lastPlace, .int x_unnumbered, .int x_previousArgument])), (h_x_format, .inr (0, [.ref h_x_format_kept, .int x_format_length])), (h_x_format_kept, .inl (cC, x_format_kept_n, .inl x_format_kept))] sz) := by
  refine mm_of (own := "DirectivePrinter") (cc := b_DP_wipe) (maxL := 2) (ret := (some .int)) (by decide) rfl rfl ?_
  intro p e s m below meth c hsz C0 hw hname
  generalize (va_A [(h_x, .inr (5, [.ref h_x_format, .ref h_x_paper, .ref h_x_arguments, .ref h_x_directive, .ref h_x_composer, .int x_argumentCount, .int x_lastFault, .int x_lastPlace, .int x_unnumbered, .int x_previousArgument])), (h_x_format, .inr (0, [.ref h_x_format_kept, .int x_format_length])), (h_x_format_kept, .inl (cC, x_format_kept_n, .inl x_format_kept))] sz) = A at C0 hw ⊢
  have hl := lv_entry ([.ref h_x]) (n := 2) (Nat.le_of_ble_eq_true rfl)
  rw [lg_entry_eq]
  generalize (lg_sl ([.ref h_x]) ++ List.replicate (2 - (lg_sl ([.ref h_x])).length) Slot.unset).toArray = ls at hl ⊢
  have hl : lv_has ls 2 [(0, .ref h_x)] := hl
  obtain ⟨hx, hb, hr, hml, hown, hts, hlocks, hK, hZ, hA⟩ := id C0
  generalize s.heap = H at hw ⊢
  unfold f_DP_wipe at hf
  refine lv_aload_n hx hb d_DP_wipe_0 rfl (lv_at hl 0 rfl) ?_
  refine va_get (D := (dC, dI)) (ci := 5) (v := .ref h_x_format) (C := "DirectivePrinter") (T := T_DP) (N := 10) hx hb hts (mm_up i_DP) hown hK hw.1 0 rfl rfl 0 (by decide) (hts _ (List.mem_cons_of_mem _ q_207)) (fun _ h9 => h9) rfl d_DP_wipe_1 ?_
  obtain ⟨r_1, hu, hf⟩ := mm_b1_ok hf
  refine mm_ci (wr := [(h_x, .inr (5, [.ref h_x_format, .ref h_x_paper, .ref h_x_arguments, .ref h_x_directive, .ref h_x_composer, .int x_argumentCount, .int x_lastFault, .int x_lastPlace, .int x_unnumbered, .int x_previousArgument]))]) (va_runV (As := []) (rest := []) ⟨hx, hb, hml, hown, hts⟩ (c_Row_size l Zo dC dI cC cI cJ cQ x_format_kept_n x_format_kept x_format_length h_x_format h_x_format_kept H.size r_1 hu) (cwV 0 hts (mm_gV q_242 q_243 q_244 q_55 q_245) rfl rfl rfl (by decide +kernel) ⟨Nat.le_of_ble_eq_true rfl, Nat.le_of_ble_eq_true rfl⟩) (mm_pv Zo.1 hK hw hZ hA [1, 2] (by decide) rfl rfl (ci := 0) (q0 := 0) rfl rfl) rfl rfl hl.1 rfl (lv_room (Nat.le_of_ble_eq_true rfl)) d_DP_wipe_4 ⟨Nat.le_refl _, Nat.le_refl _⟩) hw hA [1, 2] [0] rfl rfl (by decide) (by decide) (fun H locs hw => ?_)
  have hw : mm_w (dC, dI) vwC A s [(h_x, .inr (5, [.ref h_x_format, .ref h_x_paper, .ref h_x_arguments, .ref h_x_directive, .ref h_x_composer, .int x_argumentCount, .int x_lastFault, .int x_lastPlace, .int x_unnumbered, .int x_previousArgument])), (h_x_format, .inr (0, [.ref h_x_format_kept, .int x_format_length])), (h_x_format_kept, .inl (cC, x_format_kept_n, .inl x_format_kept))] H locs := hw
  refine lv_istore_n (lv' := [(1, .int r_1), (0, .ref h_x)]) hx hb d_DP_wipe_7 rfl hl (by decide) rfl (fun ls hl => ?_)
  refine lv_aload_n hx hb d_DP_wipe_8 rfl (lv_at hl 1 rfl) ?_
  refine va_get (D := (dC, dI)) (ci := 5) (v := .ref h_x_format) (C := "DirectivePrinter") (T := T_DP) (N := 10) hx hb hts (mm_up i_DP) hown hK hw.1 0 rfl rfl 0 (by decide) (hts _ (List.mem_cons_of_mem _ q_207)) (fun _ h9 => h9) rfl d_DP_wipe_9 ?_
  refine lv_iconst (v := (0 : Int32)) hx hb d_DP_wipe_12 (by decide) ?_
  obtain ⟨o_2, hu, hf⟩ := mm_b1_ok hf
  refine mm_cv (wr := [(h_x, .inr (5, [.ref h_x_format, .ref h_x_paper, .ref h_x_arguments, .ref h_x_directive, .ref h_x_composer, .int x_argumentCount, .int x_lastFault, .int x_lastPlace, .int x_unnumbered, .int x_previousArgument]))]) (va_runV (As := [.int (0 : Int32)]) (rest := []) ⟨hx, hb, hml, hown, hts⟩ (c_Row_cutTo l Zo dC dI cC cI cJ cQ x_format_kept_n x_format_kept x_format_length (0 : Int32) h_x_format h_x_format_kept H.size o_2 hu) (cwV 1 hts (mm_gV q_246 q_247 q_248 q_55 q_249) rfl rfl rfl (by decide +kernel) ⟨Nat.le_of_ble_eq_true rfl, Nat.le_of_ble_eq_true rfl⟩) (mm_pv Zo.1 hK hw hZ hA [1, 2] (by decide) rfl rfl (ci := 0) (q0 := 0) rfl rfl) rfl rfl hl.1 rfl (lv_room (Nat.le_of_ble_eq_true rfl)) d_DP_wipe_13 ⟨Nat.le_refl _, Nat.le_refl _⟩) hw hA [1, 2] [0] rfl rfl (by decide) (by decide) (fun H locs hw => ?_)
  have hw : mm_w (dC, dI) vwC A s [(h_x, .inr (5, [.ref h_x_format, .ref h_x_paper, .ref h_x_arguments, .ref h_x_directive, .ref h_x_composer, .int x_argumentCount, .int x_lastFault, .int x_lastPlace, .int x_unnumbered, .int x_previousArgument])), (h_x_format, .inr (0, [.ref h_x_format_kept, .int o_2])), (h_x_format_kept, .inl (cC, x_format_kept_n, .inl x_format_kept))] H locs := hw
  refine lv_iload_n hx hb d_DP_wipe_16 rfl (lv_at hl 0 rfl) ?_
  obtain rfl := Option.some.inj hf
  exact mm_iret hx hb hr hlocks hK (mm_wsub hw [0, 1, 2] (by decide) rfl rfl) rfl d_DP_wipe_17
/-! DirectivePrinter.clear()I -/
def f_DP_clear (x_argumentCount : Int32) : Option (Int32 × Int32) := some (x_argumentCount, (0 : Int32))
abbrev r_DP_clear : Room := { frames := 0, cells := 0, slots := 0, locals := 0 }
set_option maxHeartbeats 4000000 in
set_option maxRecDepth 100000 in
theorem c_DP_clear (l : Launch) {Z : (Nat → Prop) → State → Heap → Prop} {ad adK adV : Nat → Nat} (Zo : mm_Zx Z ad adK adV) (dC : Nat → ClassId) (dI : Nat → Nat → Nat) (cC cI cJ cQ : ClassId) (x_argumentCount : Int32) (x_lastFault : Int32) (x_lastPlace : Int32) (x_unnumbered : Int32) (x_previousArgument : Int32) (h_x h_x_format h_x_paper h_x_arguments h_x_directive h_x_composer : Nat) (sz : Nat) (out : Int32 × Int32) (hf : f_DP_clear x_argumentCount = some out) : Met l y_DP_clear w_DP_clear r_DP_clear (mm_pre (dC, dI) vwC (tyl cC cI cJ cQ) Z [(h_x, .inr (5, [.ref h_x_format, .ref h_x_paper, .ref h_x_arguments, .ref h_x_directive, .ref h_x_composer, .int x_argumentCount, .int x_lastFault, .int x_lastPlace, .int x_unnumbered, .int x_previousArgument]))] sz [.ref h_x]) (mm_qi (dC, dI) vwC (tyl cC cI cJ cQ) (va_A [(h_x, .inr (5, [.ref h_x_format, .ref h_x_paper, .ref h_x_arguments, .ref h_x_directive, .ref h_x_composer, .int x_argumentCount, .int x_lastFault, .int x_lastPlace, .int x_unnumbered, .int x_previousArgument]))] sz) [(h_x, .inr (5, [.ref h_x_format, .ref h_x_paper, .ref h_x_arguments, .ref h_x_directive, .ref h_x_composer, .int out.2, .int x_lastFault, .int x_lastPlace, .int x_unnumbered, .int x_previousArgument]))] out.1) 0 0 (va_A [(h_x, .inr (5, [.ref h_x_format, .ref h_x_paper, .ref h_x_arguments, .ref h_x_directive, .ref h_x_composer, .int x_argumentCount, .int x_lastFault, .int x_lastPlace, .int x_unnumbered, .int x_previousArgument]))] sz) := by
  refine mm_of (own := "DirectivePrinter") (cc := b_DP_clear) (maxL := 2) (ret := (some .int)) (by decide) rfl rfl ?_
  intro p e s m below meth c hsz C0 hw hname
  generalize (va_A [(h_x, .inr (5, [.ref h_x_format, .ref h_x_paper, .ref h_x_arguments, .ref h_x_directive, .ref h_x_composer, .int x_argumentCount, .int x_lastFault, .int x_lastPlace, .int x_unnumbered, .int x_previousArgument]))] sz) = A at C0 hw ⊢
  have hl := lv_entry ([.ref h_x]) (n := 2) (Nat.le_of_ble_eq_true rfl)
  rw [lg_entry_eq]
  generalize (lg_sl ([.ref h_x]) ++ List.replicate (2 - (lg_sl ([.ref h_x])).length) Slot.unset).toArray = ls at hl ⊢
  have hl : lv_has ls 2 [(0, .ref h_x)] := hl
  obtain ⟨hx, hb, hr, hml, hown, hts, hlocks, hK, hZ, hA⟩ := id C0
  generalize s.heap = H at hw ⊢
  unfold f_DP_clear at hf
  refine lv_aload_n hx hb d_DP_clear_0 rfl (lv_at hl 0 rfl) ?_
  refine va_get (D := (dC, dI)) (ci := 5) (v := .int x_argumentCount) (C := "DirectivePrinter") (T := T_DP) (N := 10) hx hb hts (mm_up i_DP) hown hK hw.1 0 rfl rfl 5 (by decide) (hts _ (List.mem_cons_of_mem _ q_212)) (fun _ h9 => h9) rfl d_DP_clear_1 ?_
  refine lv_istore_n (lv' := [(1, .int x_argumentCount), (0, .ref h_x)]) hx hb d_DP_clear_4 rfl hl (by decide) rfl (fun ls hl => ?_)
  refine lv_aload_n hx hb d_DP_clear_5 rfl (lv_at hl 1 rfl) ?_
  refine lv_iconst (v := (0 : Int32)) hx hb d_DP_clear_6 (by decide) ?_
  refine va_put (D := (dC, dI)) (ci := 5) (v := .int (0 : Int32)) (ty := .int) (C := "DirectivePrinter") (T := T_DP) (N := 10) hx hb hts (mm_up i_DP) t_DP t_DP_ok n_DP hown hK hw.1 hw.2.1 hw.2.2 0 rfl rfl 5 (by decide) (hts _ (List.mem_cons_of_mem _ q_212)) (fun _ h9 => h9) rfl (by decide +kernel) rfl rfl (Nat.le_of_ble_eq_true rfl) d_DP_clear_7 (fun H locs hP hD hS => ?_)
  have hw : mm_w (dC, dI) vwC A s [(h_x, .inr (5, [.ref h_x_format, .ref h_x_paper, .ref h_x_arguments, .ref h_x_directive, .ref h_x_composer, .int (0 : Int32), .int x_lastFault, .int x_lastPlace, .int x_unnumbered, .int x_previousArgument]))] H locs := ⟨hP, hD, hS⟩
  refine lv_iload_n hx hb d_DP_clear_10 rfl (lv_at hl 0 rfl) ?_
  obtain rfl := Option.some.inj hf
  exact mm_iret hx hb hr hlocks hK (mm_wsub hw [0] (by decide) rfl rfl) rfl d_DP_clear_11
/-! DirectivePrinter.printed(I)I -/
def f_DP_printed (x_paper_kept_n : Nat) (x_paper_kept : Nat → Int32) (x_paper_length : Int32) (i : Int32) : Option (Int32) := mm_b1 (f_Row_at x_paper_kept_n x_paper_kept x_paper_length i) (fun r_1 => some (r_1))
abbrev r_DP_printed : Room := { frames := 1, cells := 0, slots := 0, locals := 21 }
set_option maxHeartbeats 4000000 in
set_option maxRecDepth 100000 in
theorem c_DP_printed (l : Launch) {Z : (Nat → Prop) → State → Heap → Prop} {ad adK adV : Nat → Nat} (Zo : mm_Zx Z ad adK adV) (dC : Nat → ClassId) (dI : Nat → Nat → Nat) (cC cI cJ cQ : ClassId) (x_paper_kept_n : Nat) (x_paper_kept : Nat → Int32) (x_paper_length : Int32) (x_argumentCount : Int32) (x_lastFault : Int32) (x_lastPlace : Int32) (x_unnumbered : Int32) (x_previousArgument : Int32) (i : Int32) (h_x h_x_paper h_x_paper_kept h_x_format h_x_arguments h_x_directive h_x_composer : Nat) (sz : Nat) (out : Int32) (hf : f_DP_printed x_paper_kept_n x_paper_kept x_paper_length i = some out) : Met l y_DP_printed w_DP_printed r_DP_printed (mm_pre (dC, dI) vwC (tyl cC cI cJ cQ) Z [(h_x, .inr (5, [.ref h_x_format, .ref h_x_paper, .ref h_x_arguments, .ref h_x_directive, .ref h_x_composer, .int x_argumentCount, .int x_lastFault, .int x_lastPlace, .int x_unnumbered, .int x_previousArgument])), (h_x_paper, .inr (0, [.ref h_x_paper_kept, .int x_paper_length])), (h_x_paper_kept, .inl (cC, x_paper_kept_n, .inl x_paper_kept))] sz [.ref h_x, .int i]) (mm_qi (dC, dI) vwC (tyl cC cI cJ cQ) (va_A [(h_x, .inr (5, [.ref h_x_format, .ref h_x_paper, .ref h_x_arguments, .ref h_x_directive, .ref h_x_composer, .int x_argumentCount, .int x_lastFault, .int x_lastPlace, .int x_unnumbered, .int x_previousArgument])), (h_x_paper, .inr (0, [.ref h_x_paper_kept, .int x_paper_length])), (h_x_paper_kept, .inl (cC, x_paper_kept_n, .inl x_paper_kept))] sz) [(h_x, .inr (5, [.ref h_x_format, .ref h_x_paper, .ref h_x_arguments, .ref h_x_directive, .ref h_x_composer, .int x_argumentCount, .int x_lastFault, .int x_lastPlace, .int x_unnumbered, .int x_previousArgument])), (h_x_paper, .inr (0, [.ref h_x_paper_kept, .int x_paper_length])), (h_x_paper_kept, .inl (cC, x_paper_kept_n, .inl x_paper_kept))] out) 0 0 (va_A [(h_x, .inr (5, [.ref h_x_format, .ref h_x_paper, .ref h_x_arguments, .ref h_x_directive, .ref h_x_composer, .int x_argumentCount, .int x_lastFault, .int x_lastPlace, .int x_unnumbered, .int x_previousArgument])), (h_x_paper, .inr (0, [.ref h_x_paper_kept, .int x_paper_length])), (h_x_paper_kept, .inl (cC, x_paper_kept_n, .inl x_paper_kept))] sz) := by
  refine mm_of (own := "DirectivePrinter") (cc := b_DP_printed) (maxL := 2) (ret := (some .int)) (by decide) rfl rfl ?_
  intro p e s m below meth c hsz C0 hw hname
  generalize (va_A [(h_x, .inr (5, [.ref h_x_format, .ref h_x_paper, .ref h_x_arguments, .ref h_x_directive, .ref h_x_composer, .int x_argumentCount, .int x_lastFault, .int x_lastPlace, .int x_unnumbered, .int x_previousArgument])), (h_x_paper, .inr (0, [.ref h_x_paper_kept, .int x_paper_length])), (h_x_paper_kept, .inl (cC, x_paper_kept_n, .inl x_paper_kept))] sz) = A at C0 hw ⊢
  have hl := lv_entry ([.ref h_x, .int i]) (n := 2) (Nat.le_of_ble_eq_true rfl)
  rw [lg_entry_eq]
  generalize (lg_sl ([.ref h_x, .int i]) ++ List.replicate (2 - (lg_sl ([.ref h_x, .int i])).length) Slot.unset).toArray = ls at hl ⊢
  have hl : lv_has ls 2 [(0, .ref h_x), (1, .int i)] := hl
  obtain ⟨hx, hb, hr, hml, hown, hts, hlocks, hK, hZ, hA⟩ := id C0
  generalize s.heap = H at hw ⊢
  unfold f_DP_printed at hf
  refine lv_aload_n hx hb d_DP_printed_0 rfl (lv_at hl 0 rfl) ?_
  refine va_get (D := (dC, dI)) (ci := 5) (v := .ref h_x_paper) (C := "DirectivePrinter") (T := T_DP) (N := 10) hx hb hts (mm_up i_DP) hown hK hw.1 0 rfl rfl 1 (by decide) (hts _ (List.mem_cons_of_mem _ q_208)) (fun _ h9 => h9) rfl d_DP_printed_1 ?_
  refine lv_iload_n hx hb d_DP_printed_4 rfl (lv_at hl 1 rfl) ?_
  obtain ⟨r_1, hu, hf⟩ := mm_b1_ok hf
  refine mm_ci (wr := [(h_x, .inr (5, [.ref h_x_format, .ref h_x_paper, .ref h_x_arguments, .ref h_x_directive, .ref h_x_composer, .int x_argumentCount, .int x_lastFault, .int x_lastPlace, .int x_unnumbered, .int x_previousArgument]))]) (va_runV (As := [.int i]) (rest := []) ⟨hx, hb, hml, hown, hts⟩ (c_Row_at l Zo dC dI cC cI cJ cQ x_paper_kept_n x_paper_kept x_paper_length i h_x_paper h_x_paper_kept H.size r_1 hu) (cwV 1 hts (mm_gV q_273 q_274 q_275 q_55 q_276) rfl rfl rfl (by decide +kernel) ⟨Nat.le_of_ble_eq_true rfl, Nat.le_of_ble_eq_true rfl⟩) (mm_pv Zo.1 hK hw hZ hA [1, 2] (by decide) rfl rfl (ci := 0) (q0 := 0) rfl rfl) rfl rfl hl.1 rfl (lv_room (Nat.le_of_ble_eq_true rfl)) d_DP_printed_5 ⟨Nat.le_refl _, Nat.le_refl _⟩) hw hA [1, 2] [0] rfl rfl (by decide) (by decide) (fun H locs hw => ?_)
  have hw : mm_w (dC, dI) vwC A s [(h_x, .inr (5, [.ref h_x_format, .ref h_x_paper, .ref h_x_arguments, .ref h_x_directive, .ref h_x_composer, .int x_argumentCount, .int x_lastFault, .int x_lastPlace, .int x_unnumbered, .int x_previousArgument])), (h_x_paper, .inr (0, [.ref h_x_paper_kept, .int x_paper_length])), (h_x_paper_kept, .inl (cC, x_paper_kept_n, .inl x_paper_kept))] H locs := hw
  obtain rfl := Option.some.inj hf
  exact mm_iret hx hb hr hlocks hK (mm_wsub hw [0, 1, 2] (by decide) rfl rfl) rfl d_DP_printed_8
/-! DirectivePrinter.fault()I -/
def f_DP_fault (x_lastFault : Int32) : Option (Int32) := some (x_lastFault)
abbrev r_DP_fault : Room := { frames := 0, cells := 0, slots := 0, locals := 0 }
set_option maxHeartbeats 4000000 in
set_option maxRecDepth 100000 in
theorem c_DP_fault (l : Launch) {Z : (Nat → Prop) → State → Heap → Prop} {ad adK adV : Nat → Nat} (Zo : mm_Zx Z ad adK adV) (dC : Nat → ClassId) (dI : Nat → Nat → Nat) (cC cI cJ cQ : ClassId) (x_argumentCount : Int32) (x_lastFault : Int32) (x_lastPlace : Int32) (x_unnumbered : Int32) (x_previousArgument : Int32) (h_x h_x_format h_x_paper h_x_arguments h_x_directive h_x_composer : Nat) (sz : Nat) (out : Int32) (hf : f_DP_fault x_lastFault = some out) : Met l y_DP_fault w_DP_fault r_DP_fault (mm_pre (dC, dI) vwC (tyl cC cI cJ cQ) Z [(h_x, .inr (5, [.ref h_x_format, .ref h_x_paper, .ref h_x_arguments, .ref h_x_directive, .ref h_x_composer, .int x_argumentCount, .int x_lastFault, .int x_lastPlace, .int x_unnumbered, .int x_previousArgument]))] sz [.ref h_x]) (mm_qi (dC, dI) vwC (tyl cC cI cJ cQ) (va_A [(h_x, .inr (5, [.ref h_x_format, .ref h_x_paper, .ref h_x_arguments, .ref h_x_directive, .ref h_x_composer, .int x_argumentCount, .int x_lastFault, .int x_lastPlace, .int x_unnumbered, .int x_previousArgument]))] sz) [(h_x, .inr (5, [.ref h_x_format, .ref h_x_paper, .ref h_x_arguments, .ref h_x_directive, .ref h_x_composer, .int x_argumentCount, .int x_lastFault, .int x_lastPlace, .int x_unnumbered, .int x_previousArgument]))] out) 0 0 (va_A [(h_x, .inr (5, [.ref h_x_format, .ref h_x_paper, .ref h_x_arguments, .ref h_x_directive, .ref h_x_composer, .int x_argumentCount, .int x_lastFault, .int x_lastPlace, .int x_unnumbered, .int x_previousArgument]))] sz) := by
  refine mm_of (own := "DirectivePrinter") (cc := b_DP_fault) (maxL := 1) (ret := (some .int)) (by decide) rfl rfl ?_
  intro p e s m below meth c hsz C0 hw hname
  generalize (va_A [(h_x, .inr (5, [.ref h_x_format, .ref h_x_paper, .ref h_x_arguments, .ref h_x_directive, .ref h_x_composer, .int x_argumentCount, .int x_lastFault, .int x_lastPlace, .int x_unnumbered, .int x_previousArgument]))] sz) = A at C0 hw ⊢
  have hl := lv_entry ([.ref h_x]) (n := 1) (Nat.le_of_ble_eq_true rfl)
  rw [lg_entry_eq]
  generalize (lg_sl ([.ref h_x]) ++ List.replicate (1 - (lg_sl ([.ref h_x])).length) Slot.unset).toArray = ls at hl ⊢
  have hl : lv_has ls 1 [(0, .ref h_x)] := hl
  obtain ⟨hx, hb, hr, hml, hown, hts, hlocks, hK, hZ, hA⟩ := id C0
  generalize s.heap = H at hw ⊢
  unfold f_DP_fault at hf
  refine lv_aload_n hx hb d_DP_fault_0 rfl (lv_at hl 0 rfl) ?_
  refine va_get (D := (dC, dI)) (ci := 5) (v := .int x_lastFault) (C := "DirectivePrinter") (T := T_DP) (N := 10) hx hb hts (mm_up i_DP) hown hK hw.1 0 rfl rfl 6 (by decide) (hts _ (List.mem_cons_of_mem _ q_213)) (fun _ h9 => h9) rfl d_DP_fault_1 ?_
  obtain rfl := Option.some.inj hf
  exact mm_iret hx hb hr hlocks hK (mm_wsub hw [0] (by decide) rfl rfl) rfl d_DP_fault_4
/-! DirectivePrinter.place()I -/
def f_DP_place (x_lastPlace : Int32) : Option (Int32) := some (x_lastPlace)
abbrev r_DP_place : Room := { frames := 0, cells := 0, slots := 0, locals := 0 }
set_option maxHeartbeats 4000000 in
set_option maxRecDepth 100000 in
theorem c_DP_place (l : Launch) {Z : (Nat → Prop) → State → Heap → Prop} {ad adK adV : Nat → Nat} (Zo : mm_Zx Z ad adK adV) (dC : Nat → ClassId) (dI : Nat → Nat → Nat) (cC cI cJ cQ : ClassId) (x_argumentCount : Int32) (x_lastFault : Int32) (x_lastPlace : Int32) (x_unnumbered : Int32) (x_previousArgument : Int32) (h_x h_x_format h_x_paper h_x_arguments h_x_directive h_x_composer : Nat) (sz : Nat) (out : Int32) (hf : f_DP_place x_lastPlace = some out) : Met l y_DP_place w_DP_place r_DP_place (mm_pre (dC, dI) vwC (tyl cC cI cJ cQ) Z [(h_x, .inr (5, [.ref h_x_format, .ref h_x_paper, .ref h_x_arguments, .ref h_x_directive, .ref h_x_composer, .int x_argumentCount, .int x_lastFault, .int x_lastPlace, .int x_unnumbered, .int x_previousArgument]))] sz [.ref h_x]) (mm_qi (dC, dI) vwC (tyl cC cI cJ cQ) (va_A [(h_x, .inr (5, [.ref h_x_format, .ref h_x_paper, .ref h_x_arguments, .ref h_x_directive, .ref h_x_composer, .int x_argumentCount, .int x_lastFault, .int x_lastPlace, .int x_unnumbered, .int x_previousArgument]))] sz) [(h_x, .inr (5, [.ref h_x_format, .ref h_x_paper, .ref h_x_arguments, .ref h_x_directive, .ref h_x_composer, .int x_argumentCount, .int x_lastFault, .int x_lastPlace, .int x_unnumbered, .int x_previousArgument]))] out) 0 0 (va_A [(h_x, .inr (5, [.ref h_x_format, .ref h_x_paper, .ref h_x_arguments, .ref h_x_directive, .ref h_x_composer, .int x_argumentCount, .int x_lastFault, .int x_lastPlace, .int x_unnumbered, .int x_previousArgument]))] sz) := by
  refine mm_of (own := "DirectivePrinter") (cc := b_DP_place) (maxL := 1) (ret := (some .int)) (by decide) rfl rfl ?_
  intro p e s m below meth c hsz C0 hw hname
  generalize (va_A [(h_x, .inr (5, [.ref h_x_format, .ref h_x_paper, .ref h_x_arguments, .ref h_x_directive, .ref h_x_composer, .int x_argumentCount, .int x_lastFault, .int x_lastPlace, .int x_unnumbered, .int x_previousArgument]))] sz) = A at C0 hw ⊢
  have hl := lv_entry ([.ref h_x]) (n := 1) (Nat.le_of_ble_eq_true rfl)
  rw [lg_entry_eq]
  generalize (lg_sl ([.ref h_x]) ++ List.replicate (1 - (lg_sl ([.ref h_x])).length) Slot.unset).toArray = ls at hl ⊢
  have hl : lv_has ls 1 [(0, .ref h_x)] := hl
  obtain ⟨hx, hb, hr, hml, hown, hts, hlocks, hK, hZ, hA⟩ := id C0
  generalize s.heap = H at hw ⊢
  unfold f_DP_place at hf
  refine lv_aload_n hx hb d_DP_place_0 rfl (lv_at hl 0 rfl) ?_
  refine va_get (D := (dC, dI)) (ci := 5) (v := .int x_lastPlace) (C := "DirectivePrinter") (T := T_DP) (N := 10) hx hb hts (mm_up i_DP) hown hK hw.1 0 rfl rfl 7 (by decide) (hts _ (List.mem_cons_of_mem _ q_214)) (fun _ h9 => h9) rfl d_DP_place_1 ?_
  obtain rfl := Option.some.inj hf
  exact mm_iret hx hb hr hlocks hK (mm_wsub hw [0] (by decide) rfl rfl) rfl d_DP_place_4
/-! DirectivePrinter.faultOfLength()I -/
def f_DP_faultOfLength (x_paper_length : Int32) : Option (Int32) := mm_b1 (f_Row_size x_paper_length) (fun r_1 => (if r_1 ≤ (4096 : Int32) then some ((0 : Int32)) else some ((12 : Int32))))
abbrev r_DP_faultOfLength : Room := { frames := 1, cells := 0, slots := 0, locals := 20 }
set_option maxHeartbeats 4000000 in
set_option maxRecDepth 100000 in
theorem c_DP_faultOfLength (l : Launch) {Z : (Nat → Prop) → State → Heap → Prop} {ad adK adV : Nat → Nat} (Zo : mm_Zx Z ad adK adV) (dC : Nat → ClassId) (dI : Nat → Nat → Nat) (cC cI cJ cQ : ClassId) (x_paper_kept_n : Nat) (x_paper_kept : Nat → Int32) (x_paper_length : Int32) (x_argumentCount : Int32) (x_lastFault : Int32) (x_lastPlace : Int32) (x_unnumbered : Int32) (x_previousArgument : Int32) (h_x h_x_paper h_x_paper_kept h_x_format h_x_arguments h_x_directive h_x_composer : Nat) (sz : Nat) (out : Int32) (hf : f_DP_faultOfLength x_paper_length = some out) : Met l y_DP_faultOfLength w_DP_faultOfLength r_DP_faultOfLength (mm_pre (dC, dI) vwC (tyl cC cI cJ cQ) Z [(h_x, .inr (5, [.ref h_x_format, .ref h_x_paper, .ref h_x_arguments, .ref h_x_directive, .ref h_x_composer, .int x_argumentCount, .int x_lastFault, .int x_lastPlace, .int x_unnumbered, .int x_previousArgument])), (h_x_paper, .inr (0, [.ref h_x_paper_kept, .int x_paper_length])), (h_x_paper_kept, .inl (cC, x_paper_kept_n, .inl x_paper_kept))] sz [.ref h_x]) (mm_qi (dC, dI) vwC (tyl cC cI cJ cQ) (va_A [(h_x, .inr (5, [.ref h_x_format, .ref h_x_paper, .ref h_x_arguments, .ref h_x_directive, .ref h_x_composer, .int x_argumentCount, .int x_lastFault, .int x_lastPlace, .int x_unnumbered, .int x_previousArgument])), (h_x_paper, .inr (0, [.ref h_x_paper_kept, .int x_paper_length])), (h_x_paper_kept, .inl (cC, x_paper_kept_n, .inl x_paper_kept))] sz) [(h_x, .inr (5, [.ref h_x_format, .ref h_x_paper, .ref h_x_arguments, .ref h_x_directive, .ref h_x_composer, .int x_argumentCount, .int x_lastFault, .int x_lastPlace, .int x_unnumbered, .int x_previousArgument])), (h_x_paper, .inr (0, [.ref h_x_paper_kept, .int x_paper_length])), (h_x_paper_kept, .inl (cC, x_paper_kept_n, .inl x_paper_kept))] out) 0 0 (va_A [(h_x, .inr (5, [.ref h_x_format, .ref h_x_paper, .ref h_x_arguments, .ref h_x_directive, .ref h_x_composer, .int x_argumentCount, .int x_lastFault, .int x_lastPlace, .int x_unnumbered, .int x_previousArgument])), (h_x_paper, .inr (0, [.ref h_x_paper_kept, .int x_paper_length])), (h_x_paper_kept, .inl (cC, x_paper_kept_n, .inl x_paper_kept))] sz) := by
  refine mm_of (own := "DirectivePrinter") (cc := b_DP_faultOfLength) (maxL := 1) (ret := (some .int)) (by decide) rfl rfl ?_
  intro p e s m below meth c hsz C0 hw hname
  generalize (va_A [(h_x, .inr (5, [.ref h_x_format, .ref h_x_paper, .ref h_x_arguments, .ref h_x_directive, .ref h_x_composer, .int x_argumentCount, .int x_lastFault, .int x_lastPlace, .int x_unnumbered, .int x_previousArgument])), (h_x_paper, .inr (0, [.ref h_x_paper_kept, .int x_paper_length])), (h_x_paper_kept, .inl (cC, x_paper_kept_n, .inl x_paper_kept))] sz) = A at C0 hw ⊢
  have hl := lv_entry ([.ref h_x]) (n := 1) (Nat.le_of_ble_eq_true rfl)
  rw [lg_entry_eq]
  generalize (lg_sl ([.ref h_x]) ++ List.replicate (1 - (lg_sl ([.ref h_x])).length) Slot.unset).toArray = ls at hl ⊢
  have hl : lv_has ls 1 [(0, .ref h_x)] := hl
  obtain ⟨hx, hb, hr, hml, hown, hts, hlocks, hK, hZ, hA⟩ := id C0
  generalize s.heap = H at hw ⊢
  unfold f_DP_faultOfLength at hf
  refine lv_aload_n hx hb d_DP_faultOfLength_0 rfl (lv_at hl 0 rfl) ?_
  refine va_get (D := (dC, dI)) (ci := 5) (v := .ref h_x_paper) (C := "DirectivePrinter") (T := T_DP) (N := 10) hx hb hts (mm_up i_DP) hown hK hw.1 0 rfl rfl 1 (by decide) (hts _ (List.mem_cons_of_mem _ q_208)) (fun _ h9 => h9) rfl d_DP_faultOfLength_1 ?_
  obtain ⟨r_1, hu, hf⟩ := mm_b1_ok hf
  refine mm_ci (wr := [(h_x, .inr (5, [.ref h_x_format, .ref h_x_paper, .ref h_x_arguments, .ref h_x_directive, .ref h_x_composer, .int x_argumentCount, .int x_lastFault, .int x_lastPlace, .int x_unnumbered, .int x_previousArgument]))]) (va_runV (As := []) (rest := []) ⟨hx, hb, hml, hown, hts⟩ (c_Row_size l Zo dC dI cC cI cJ cQ x_paper_kept_n x_paper_kept x_paper_length h_x_paper h_x_paper_kept H.size r_1 hu) (cwV 0 hts (mm_gV q_242 q_243 q_244 q_55 q_245) rfl rfl rfl (by decide +kernel) ⟨Nat.le_of_ble_eq_true rfl, Nat.le_of_ble_eq_true rfl⟩) (mm_pv Zo.1 hK hw hZ hA [1, 2] (by decide) rfl rfl (ci := 0) (q0 := 0) rfl rfl) rfl rfl hl.1 rfl (lv_room (Nat.le_of_ble_eq_true rfl)) d_DP_faultOfLength_4 ⟨Nat.le_refl _, Nat.le_refl _⟩) hw hA [1, 2] [0] rfl rfl (by decide) (by decide) (fun H locs hw => ?_)
  have hw : mm_w (dC, dI) vwC A s [(h_x, .inr (5, [.ref h_x_format, .ref h_x_paper, .ref h_x_arguments, .ref h_x_directive, .ref h_x_composer, .int x_argumentCount, .int x_lastFault, .int x_lastPlace, .int x_unnumbered, .int x_previousArgument])), (h_x_paper, .inr (0, [.ref h_x_paper_kept, .int x_paper_length])), (h_x_paper_kept, .inl (cC, x_paper_kept_n, .inl x_paper_kept))] H locs := hw
  refine lv_sipush (v := (4096 : Int32)) hx hb d_DP_faultOfLength_7 (by decide) ?_
  refine lv_icmp_le (tgt := 18) hx hb d_DP_faultOfLength_10 (by decide) (fun hc => ?_) (fun hc => ?_)
  · replace hf := mm_ip hc hf
    refine lv_iconst (v := (0 : Int32)) hx hb d_DP_faultOfLength_18 (by decide) ?_
    obtain rfl := Option.some.inj hf
    exact mm_iret hx hb hr hlocks hK (mm_wsub hw [0, 1, 2] (by decide) rfl rfl) rfl d_DP_faultOfLength_19
  · replace hf := mm_in hc hf
    refine lv_bipush (v := (12 : Int32)) hx hb d_DP_faultOfLength_13 (by decide) ?_
    refine lv_goto (tgt := 19) hx hb d_DP_faultOfLength_15 (by decide) ?_
    obtain rfl := Option.some.inj hf
    exact mm_iret hx hb hr hlocks hK (mm_wsub hw [0, 1, 2] (by decide) rfl rfl) rfl d_DP_faultOfLength_19
/-! DirectivePrinter.blame(II)V -/
def f_DP_blame (x_lastFault : Int32) (x_lastPlace : Int32) (fo : Int32) (ps : Int32) : Option (Int32 × Int32) := (if fo = 0 then some (x_lastFault, x_lastPlace) else some (fo, ps))
abbrev r_DP_blame : Room := { frames := 0, cells := 0, slots := 0, locals := 0 }
set_option maxHeartbeats 4000000 in
set_option maxRecDepth 100000 in
theorem c_DP_blame (l : Launch) {Z : (Nat → Prop) → State → Heap → Prop} {ad adK adV : Nat → Nat} (Zo : mm_Zx Z ad adK adV) (dC : Nat → ClassId) (dI : Nat → Nat → Nat) (cC cI cJ cQ : ClassId) (x_argumentCount : Int32) (x_lastFault : Int32) (x_lastPlace : Int32) (x_unnumbered : Int32) (x_previousArgument : Int32) (fo : Int32) (ps : Int32) (h_x h_x_format h_x_paper h_x_arguments h_x_directive h_x_composer : Nat) (sz : Nat) (out : Int32 × Int32) (hf : f_DP_blame x_lastFault x_lastPlace fo ps = some out) : Met l y_DP_blame w_DP_blame r_DP_blame (mm_pre (dC, dI) vwC (tyl cC cI cJ cQ) Z [(h_x, .inr (5, [.ref h_x_format, .ref h_x_paper, .ref h_x_arguments, .ref h_x_directive, .ref h_x_composer, .int x_argumentCount, .int x_lastFault, .int x_lastPlace, .int x_unnumbered, .int x_previousArgument]))] sz [.ref h_x, .int fo, .int ps]) (mm_qv (dC, dI) vwC (tyl cC cI cJ cQ) (va_A [(h_x, .inr (5, [.ref h_x_format, .ref h_x_paper, .ref h_x_arguments, .ref h_x_directive, .ref h_x_composer, .int x_argumentCount, .int x_lastFault, .int x_lastPlace, .int x_unnumbered, .int x_previousArgument]))] sz) [(h_x, .inr (5, [.ref h_x_format, .ref h_x_paper, .ref h_x_arguments, .ref h_x_directive, .ref h_x_composer, .int x_argumentCount, .int out.1, .int out.2, .int x_unnumbered, .int x_previousArgument]))]) 0 0 (va_A [(h_x, .inr (5, [.ref h_x_format, .ref h_x_paper, .ref h_x_arguments, .ref h_x_directive, .ref h_x_composer, .int x_argumentCount, .int x_lastFault, .int x_lastPlace, .int x_unnumbered, .int x_previousArgument]))] sz) := by
  refine mm_of (own := "DirectivePrinter") (cc := b_DP_blame) (maxL := 3) (ret := none) (by decide) rfl rfl ?_
  intro p e s m below meth c hsz C0 hw hname
  generalize (va_A [(h_x, .inr (5, [.ref h_x_format, .ref h_x_paper, .ref h_x_arguments, .ref h_x_directive, .ref h_x_composer, .int x_argumentCount, .int x_lastFault, .int x_lastPlace, .int x_unnumbered, .int x_previousArgument]))] sz) = A at C0 hw ⊢
  have hl := lv_entry ([.ref h_x, .int fo, .int ps]) (n := 3) (Nat.le_of_ble_eq_true rfl)
  rw [lg_entry_eq]
  generalize (lg_sl ([.ref h_x, .int fo, .int ps]) ++ List.replicate (3 - (lg_sl ([.ref h_x, .int fo, .int ps])).length) Slot.unset).toArray = ls at hl ⊢
  have hl : lv_has ls 3 [(0, .ref h_x), (1, .int fo), (2, .int ps)] := hl
  obtain ⟨hx, hb, hr, hml, hown, hts, hlocks, hK, hZ, hA⟩ := id C0
  generalize s.heap = H at hw ⊢
  unfold f_DP_blame at hf
  refine lv_iload_n hx hb d_DP_blame_0 rfl (lv_at hl 1 rfl) ?_
  refine lv_if_eq (tgt := 14) hx hb d_DP_blame_1 (by decide) (fun hc => ?_) (fun hc => ?_)
  · replace hf := mm_ip hc hf
    obtain rfl := Option.some.inj hf
    exact mm_vret hx hb hr hlocks hK (mm_wsub hw [0] (by decide) rfl rfl) d_DP_blame_14
  · replace hf := mm_in hc hf
    refine lv_aload_n hx hb d_DP_blame_4 rfl (lv_at hl 0 rfl) ?_
    refine lv_iload_n hx hb d_DP_blame_5 rfl (lv_at hl 1 rfl) ?_
    refine va_put (D := (dC, dI)) (ci := 5) (v := .int fo) (ty := .int) (C := "DirectivePrinter") (T := T_DP) (N := 10) hx hb hts (mm_up i_DP) t_DP t_DP_ok n_DP hown hK hw.1 hw.2.1 hw.2.2 0 rfl rfl 6 (by decide) (hts _ (List.mem_cons_of_mem _ q_213)) (fun _ h9 => h9) rfl (by decide +kernel) rfl rfl (Nat.le_of_ble_eq_true rfl) d_DP_blame_6 (fun H locs hP hD hS => ?_)
    have hw : mm_w (dC, dI) vwC A s [(h_x, .inr (5, [.ref h_x_format, .ref h_x_paper, .ref h_x_arguments, .ref h_x_directive, .ref h_x_composer, .int x_argumentCount, .int fo, .int x_lastPlace, .int x_unnumbered, .int x_previousArgument]))] H locs := ⟨hP, hD, hS⟩
    refine lv_aload_n hx hb d_DP_blame_9 rfl (lv_at hl 0 rfl) ?_
    refine lv_iload_n hx hb d_DP_blame_10 rfl (lv_at hl 2 rfl) ?_
    refine va_put (D := (dC, dI)) (ci := 5) (v := .int ps) (ty := .int) (C := "DirectivePrinter") (T := T_DP) (N := 10) hx hb hts (mm_up i_DP) t_DP t_DP_ok n_DP hown hK hw.1 hw.2.1 hw.2.2 0 rfl rfl 7 (by decide) (hts _ (List.mem_cons_of_mem _ q_214)) (fun _ h9 => h9) rfl (by decide +kernel) rfl rfl (Nat.le_of_ble_eq_true rfl) d_DP_blame_11 (fun H locs hP hD hS => ?_)
    have hw : mm_w (dC, dI) vwC A s [(h_x, .inr (5, [.ref h_x_format, .ref h_x_paper, .ref h_x_arguments, .ref h_x_directive, .ref h_x_composer, .int x_argumentCount, .int fo, .int ps, .int x_unnumbered, .int x_previousArgument]))] H locs := ⟨hP, hD, hS⟩
    obtain rfl := Option.some.inj hf
    exact mm_vret hx hb hr hlocks hK (mm_wsub hw [0] (by decide) rfl rfl) d_DP_blame_14
/-! DirectivePrinter.runCharacter(I)V -/
def f_DP_runCharacter (x_format_kept_n : Nat) (x_format_kept : Nat → Int32) (x_format_length : Int32) (x_paper_kept_n : Nat) (x_paper_kept : Nat → Int32) (x_paper_length : Int32) (x_lastFault : Int32) (x_lastPlace : Int32) (ps : Int32) : Option ((Nat → Int32) × Int32 × Int32 × Int32) := mm_b1 (f_Row_at x_format_kept_n x_format_kept x_format_length ps) (fun r_1 => mm_b2 (f_Row_add x_paper_kept_n x_paper_kept x_paper_length (mm_c r_1)) (fun o_2 o_3 => mm_b1 (f_DP_faultOfLength o_3) (fun r_4 => mm_b2 (f_DP_blame x_lastFault x_lastPlace r_4 ps) (fun o_5 o_6 => some (o_2, o_3, o_5, o_6)))))
abbrev r_DP_runCharacter : Room := { frames := 2, cells := 0, slots := 0, locals := 40 }
set_option maxHeartbeats 4000000 in
set_option maxRecDepth 100000 in
theorem c_DP_runCharacter (l : Launch) {Z : (Nat → Prop) → State → Heap → Prop} {ad adK adV : Nat → Nat} (Zo : mm_Zx Z ad adK adV) (dC : Nat → ClassId) (dI : Nat → Nat → Nat) (cC cI cJ cQ : ClassId) (x_format_kept_n : Nat) (x_format_kept : Nat → Int32) (x_format_length : Int32) (x_paper_kept_n : Nat) (x_paper_kept : Nat → Int32) (x_paper_length : Int32) (x_argumentCount : Int32) (x_lastFault : Int32) (x_lastPlace : Int32) (x_unnumbered : Int32) (x_previousArgument : Int32) (ps : Int32) (h_x h_x_format h_x_format_kept h_x_paper h_x_paper_kept h_x_arguments h_x_directive h_x_composer : Nat) (sz : Nat) (out : (Nat → Int32) × Int32 × Int32 × Int32) (hf : f_DP_runCharacter x_format_kept_n x_format_kept x_format_length x_paper_kept_n x_paper_kept x_paper_length x_lastFault x_lastPlace ps = some out) : Met l y_DP_runCharacter w_DP_runCharacter r_DP_runCharacter (mm_pre (dC, dI) vwC (tyl cC cI cJ cQ) Z [(h_x, .inr (5, [.ref h_x_format, .ref h_x_paper, .ref h_x_arguments, .ref h_x_directive, .ref h_x_composer, .int x_argumentCount, .int x_lastFault, .int x_lastPlace, .int x_unnumbered, .int x_previousArgument])), (h_x_format, .inr (0, [.ref h_x_format_kept, .int x_format_length])), (h_x_format_kept, .inl (cC, x_format_kept_n, .inl x_format_kept)), (h_x_paper, .inr (0, [.ref h_x_paper_kept, .int x_paper_length])), (h_x_paper_kept, .inl (cC, x_paper_kept_n, .inl x_paper_kept))] sz [.ref h_x, .int ps]) (mm_qv (dC, dI) vwC (tyl cC cI cJ cQ) (va_A [(h_x, .inr (5, [.ref h_x_format, .ref h_x_paper, .ref h_x_arguments, .ref h_x_directive, .ref h_x_composer, .int x_argumentCount, .int x_lastFault, .int x_lastPlace, .int x_unnumbered, .int x_previousArgument])), (h_x_format, .inr (0, [.ref h_x_format_kept, .int x_format_length])), (h_x_format_kept, .inl (cC, x_format_kept_n, .inl x_format_kept)), (h_x_paper, .inr (0, [.ref h_x_paper_kept, .int x_paper_length])), (h_x_paper_kept, .inl (cC, x_paper_kept_n, .inl x_paper_kept))] sz) [(h_x, .inr (5, [.ref h_x_format, .ref h_x_paper, .ref h_x_arguments, .ref h_x_directive, .ref h_x_composer, .int x_argumentCount, .int out.2.2.1, .int out.2.2.2, .int x_unnumbered, .int x_previousArgument])), (h_x_format, .inr (0, [.ref h_x_format_kept, .int x_format_length])), (h_x_format_kept, .inl (cC, x_format_kept_n, .inl x_format_kept)), (h_x_paper, .inr (0, [.ref h_x_paper_kept, .int out.2.1])), (h_x_paper_kept, .inl (cC, x_paper_kept_n, .inl out.1))]) 0 0 (va_A [(h_x, .inr (5, [.ref h_x_format, .ref h_x_paper, .ref h_x_arguments, .ref h_x_directive, .ref h_x_composer, .int x_argumentCount, .int x_lastFault, .int x_lastPlace, .int x_unnumbered, .int x_previousArgument])), (h_x_format, .inr (0, [.ref h_x_format_kept, .int x_format_length])), (h_x_format_kept, .inl (cC, x_format_kept_n, .inl x_format_kept)), (h_x_paper, .inr (0, [.ref h_x_paper_kept, .int x_paper_length])), (h_x_paper_kept, .inl (cC, x_paper_kept_n, .inl x_paper_kept))] sz) := by
  refine mm_of (own := "DirectivePrinter") (cc := b_DP_runCharacter) (maxL := 2) (ret := none) (by decide) rfl rfl ?_
  intro p e s m below meth c hsz C0 hw hname
  generalize (va_A [(h_x, .inr (5, [.ref h_x_format, .ref h_x_paper, .ref h_x_arguments, .ref h_x_directive, .ref h_x_composer, .int x_argumentCount, .int x_lastFault, .int x_lastPlace, .int x_unnumbered, .int x_previousArgument])), (h_x_format, .inr (0, [.ref h_x_format_kept, .int x_format_length])), (h_x_format_kept, .inl (cC, x_format_kept_n, .inl x_format_kept)), (h_x_paper, .inr (0, [.ref h_x_paper_kept, .int x_paper_length])), (h_x_paper_kept, .inl (cC, x_paper_kept_n, .inl x_paper_kept))] sz) = A at C0 hw ⊢
  have hl := lv_entry ([.ref h_x, .int ps]) (n := 2) (Nat.le_of_ble_eq_true rfl)
  rw [lg_entry_eq]
  generalize (lg_sl ([.ref h_x, .int ps]) ++ List.replicate (2 - (lg_sl ([.ref h_x, .int ps])).length) Slot.unset).toArray = ls at hl ⊢
  have hl : lv_has ls 2 [(0, .ref h_x), (1, .int ps)] := hl
  obtain ⟨hx, hb, hr, hml, hown, hts, hlocks, hK, hZ, hA⟩ := id C0
  generalize s.heap = H at hw ⊢
  unfold f_DP_runCharacter at hf
  refine lv_aload_n hx hb d_DP_runCharacter_0 rfl (lv_at hl 0 rfl) ?_
  refine va_get (D := (dC, dI)) (ci := 5) (v := .ref h_x_paper) (C := "DirectivePrinter") (T := T_DP) (N := 10) hx hb hts (mm_up i_DP) hown hK hw.1 0 rfl rfl 1 (by decide) (hts _ (List.mem_cons_of_mem _ q_208)) (fun _ h9 => h9) rfl d_DP_runCharacter_1 ?_
  refine lv_aload_n hx hb d_DP_runCharacter_4 rfl (lv_at hl 0 rfl) ?_
  refine va_get (D := (dC, dI)) (ci := 5) (v := .ref h_x_format) (C := "DirectivePrinter") (T := T_DP) (N := 10) hx hb hts (mm_up i_DP) hown hK hw.1 0 rfl rfl 0 (by decide) (hts _ (List.mem_cons_of_mem _ q_207)) (fun _ h9 => h9) rfl d_DP_runCharacter_5 ?_
  refine lv_iload_n hx hb d_DP_runCharacter_8 rfl (lv_at hl 1 rfl) ?_
  obtain ⟨r_1, hu, hf⟩ := mm_b1_ok hf
  refine mm_ci (wr := [(h_x, .inr (5, [.ref h_x_format, .ref h_x_paper, .ref h_x_arguments, .ref h_x_directive, .ref h_x_composer, .int x_argumentCount, .int x_lastFault, .int x_lastPlace, .int x_unnumbered, .int x_previousArgument])), (h_x_paper, .inr (0, [.ref h_x_paper_kept, .int x_paper_length])), (h_x_paper_kept, .inl (cC, x_paper_kept_n, .inl x_paper_kept))]) (va_runV (As := [.int ps]) (rest := [.ref h_x_paper]) ⟨hx, hb, hml, hown, hts⟩ (c_Row_at l Zo dC dI cC cI cJ cQ x_format_kept_n x_format_kept x_format_length ps h_x_format h_x_format_kept H.size r_1 hu) (cwV 1 hts (mm_gV q_273 q_274 q_275 q_55 q_276) rfl rfl rfl (by decide +kernel) ⟨Nat.le_of_ble_eq_true rfl, Nat.le_of_ble_eq_true rfl⟩) (mm_pv Zo.1 hK hw hZ hA [1, 2] (by decide) rfl rfl (ci := 0) (q0 := 0) rfl rfl) rfl rfl hl.1 rfl (lv_room (Nat.le_of_ble_eq_true rfl)) d_DP_runCharacter_9 ⟨Nat.le_refl _, Nat.le_refl _⟩) hw hA [1, 2] [0, 3, 4] rfl rfl (by decide) (by decide) (fun H locs hw => ?_)
  have hw : mm_w (dC, dI) vwC A s [(h_x, .inr (5, [.ref h_x_format, .ref h_x_paper, .ref h_x_arguments, .ref h_x_directive, .ref h_x_composer, .int x_argumentCount, .int x_lastFault, .int x_lastPlace, .int x_unnumbered, .int x_previousArgument])), (h_x_paper, .inr (0, [.ref h_x_paper_kept, .int x_paper_length])), (h_x_paper_kept, .inl (cC, x_paper_kept_n, .inl x_paper_kept)), (h_x_format, .inr (0, [.ref h_x_format_kept, .int x_format_length])), (h_x_format_kept, .inl (cC, x_format_kept_n, .inl x_format_kept))] H locs := hw
  refine lv_i2c (v := mm_c r_1) hx hb d_DP_runCharacter_12 rfl ?_
  obtain ⟨o_2, o_3, hu, hf⟩ := mm_b2_ok hf
  refine mm_cv (wr := [(h_x, .inr (5, [.ref h_x_format, .ref h_x_paper, .ref h_x_arguments, .ref h_x_directive, .ref h_x_composer, .int x_argumentCount, .int x_lastFault, .int x_lastPlace, .int x_unnumbered, .int x_previousArgument])), (h_x_format, .inr (0, [.ref h_x_format_kept, .int x_format_length])), (h_x_format_kept, .inl (cC, x_format_kept_n, .inl x_format_kept))]) (va_runV (As := [.int (mm_c r_1)]) (rest := []) ⟨hx, hb, hml, hown, hts⟩ (c_Row_add l Zo dC dI cC cI cJ cQ x_paper_kept_n x_paper_kept x_paper_length (mm_c r_1) h_x_paper h_x_paper_kept H.size (o_2, o_3) hu) (cwV 1 hts (mm_gV q_636 q_459 q_460 q_55 q_461) rfl rfl rfl (by decide +kernel) ⟨Nat.le_of_ble_eq_true rfl, Nat.le_of_ble_eq_true rfl⟩) (mm_pv Zo.1 hK hw hZ hA [1, 2] (by decide) rfl rfl (ci := 0) (q0 := 0) rfl rfl) rfl rfl hl.1 rfl (lv_room (Nat.le_of_ble_eq_true rfl)) d_DP_runCharacter_13 ⟨Nat.le_refl _, Nat.le_refl _⟩) hw hA [1, 2] [0, 3, 4] rfl rfl (by decide) (by decide) (fun H locs hw => ?_)
  have hw : mm_w (dC, dI) vwC A s [(h_x, .inr (5, [.ref h_x_format, .ref h_x_paper, .ref h_x_arguments, .ref h_x_directive, .ref h_x_composer, .int x_argumentCount, .int x_lastFault, .int x_lastPlace, .int x_unnumbered, .int x_previousArgument])), (h_x_format, .inr (0, [.ref h_x_format_kept, .int x_format_length])), (h_x_format_kept, .inl (cC, x_format_kept_n, .inl x_format_kept)), (h_x_paper, .inr (0, [.ref h_x_paper_kept, .int o_3])), (h_x_paper_kept, .inl (cC, x_paper_kept_n, .inl o_2))] H locs := hw
  refine lv_aload_n hx hb d_DP_runCharacter_16 rfl (lv_at hl 0 rfl) ?_
  refine lv_aload_n hx hb d_DP_runCharacter_17 rfl (lv_at hl 0 rfl) ?_
  obtain ⟨r_4, hu, hf⟩ := mm_b1_ok hf
  refine mm_ci (wr := [(h_x_format, .inr (0, [.ref h_x_format_kept, .int x_format_length])), (h_x_format_kept, .inl (cC, x_format_kept_n, .inl x_format_kept))]) (va_runV (As := []) (rest := [.ref h_x]) ⟨hx, hb, hml, hown, hts⟩ (c_DP_faultOfLength l Zo dC dI cC cI cJ cQ x_paper_kept_n o_2 o_3 x_argumentCount x_lastFault x_lastPlace x_unnumbered x_previousArgument h_x h_x_paper h_x_paper_kept h_x_format h_x_arguments h_x_directive h_x_composer H.size r_4 hu) (cwV 0 hts (mm_gV q_619 q_621 q_23 q_54 q_622) rfl rfl rfl (by decide +kernel) ⟨Nat.le_of_ble_eq_true rfl, Nat.le_of_ble_eq_true rfl⟩) (mm_pv Zo.1 hK hw hZ hA [0, 3, 4] (by decide) rfl rfl (ci := 5) (q0 := 0) rfl rfl) rfl rfl hl.1 rfl (lv_room (Nat.le_of_ble_eq_true rfl)) d_DP_runCharacter_18 ⟨Nat.le_refl _, Nat.le_refl _⟩) hw hA [0, 3, 4] [1, 2] rfl rfl (by decide) (by decide) (fun H locs hw => ?_)
  have hw : mm_w (dC, dI) vwC A s [(h_x_format, .inr (0, [.ref h_x_format_kept, .int x_format_length])), (h_x_format_kept, .inl (cC, x_format_kept_n, .inl x_format_kept)), (h_x, .inr (5, [.ref h_x_format, .ref h_x_paper, .ref h_x_arguments, .ref h_x_directive, .ref h_x_composer, .int x_argumentCount, .int x_lastFault, .int x_lastPlace, .int x_unnumbered, .int x_previousArgument])), (h_x_paper, .inr (0, [.ref h_x_paper_kept, .int o_3])), (h_x_paper_kept, .inl (cC, x_paper_kept_n, .inl o_2))] H locs := hw
  refine lv_iload_n hx hb d_DP_runCharacter_21 rfl (lv_at hl 1 rfl) ?_
  obtain ⟨o_5, o_6, hu, hf⟩ := mm_b2_ok hf
  refine mm_cv (wr := [(h_x_format, .inr (0, [.ref h_x_format_kept, .int x_format_length])), (h_x_format_kept, .inl (cC, x_format_kept_n, .inl x_format_kept)), (h_x_paper, .inr (0, [.ref h_x_paper_kept, .int o_3])), (h_x_paper_kept, .inl (cC, x_paper_kept_n, .inl o_2))]) (va_runV (As := [.int r_4, .int ps]) (rest := []) ⟨hx, hb, hml, hown, hts⟩ (c_DP_blame l Zo dC dI cC cI cJ cQ x_argumentCount x_lastFault x_lastPlace x_unnumbered x_previousArgument r_4 ps h_x h_x_format h_x_paper h_x_arguments h_x_directive h_x_composer H.size (o_5, o_6) hu) (cwV 2 hts (mm_gV q_623 q_625 q_24 q_54 q_626) rfl rfl rfl (by decide +kernel) ⟨Nat.le_of_ble_eq_true rfl, Nat.le_of_ble_eq_true rfl⟩) (mm_pv Zo.1 hK hw hZ hA [2] (by decide) rfl rfl (ci := 5) (q0 := 0) rfl rfl) rfl rfl hl.1 rfl (lv_room (Nat.le_of_ble_eq_true rfl)) d_DP_runCharacter_22 ⟨Nat.le_refl _, Nat.le_refl _⟩) hw hA [2] [0, 1, 3, 4] rfl rfl (by decide) (by decide) (fun H locs hw => ?_)
  have hw : mm_w (dC, dI) vwC A s [(h_x_format, .inr (0, [.ref h_x_format_kept, .int x_format_length])), (h_x_format_kept, .inl (cC, x_format_kept_n, .inl x_format_kept)), (h_x_paper, .inr (0, [.ref h_x_paper_kept, .int o_3])), (h_x_paper_kept, .inl (cC, x_paper_kept_n, .inl o_2)), (h_x, .inr (5, [.ref h_x_format, .ref h_x_paper, .ref h_x_arguments, .ref h_x_directive, .ref h_x_composer, .int x_argumentCount, .int o_5, .int o_6, .int x_unnumbered, .int x_previousArgument]))] H locs := hw
  obtain rfl := Option.some.inj hf
  exact mm_vret hx hb hr hlocks hK (mm_wsub hw [4, 0, 1, 2, 3] (by decide) rfl rfl) d_DP_runCharacter_25
/-! DirectivePrinter.chooseArgument()I -/
def f_DP_chooseArgument (x_directive_index : Int32) (x_directive_flags : Int32) (x_unnumbered : Int32) (x_previousArgument : Int32) : Option (Int32 × Int32) := mm_b1 (f_Directive_has x_directive_flags (64 : Int32)) (fun r_1 => (if r_1 = 0 then (if x_directive_index = (-1 : Int32) then some (x_unnumbered + (1 : Int32), x_unnumbered + (1 : Int32)) else some (x_directive_index, x_unnumbered)) else some (x_previousArgument, x_unnumbered)))
abbrev r_DP_chooseArgument : Room := { frames := 1, cells := 0, slots := 0, locals := 21 }
set_option maxHeartbeats 4000000 in
set_option maxRecDepth 100000 in
theorem c_DP_chooseArgument (l : Launch) {Z : (Nat → Prop) → State → Heap → Prop} {ad adK adV : Nat → Nat} (Zo : mm_Zx Z ad adK adV) (dC : Nat → ClassId) (dI : Nat → Nat → Nat) (cC cI cJ cQ : ClassId) (x_directive_index : Int32) (x_directive_flags : Int32) (x_directive_flagTwice : Int32) (x_directive_width : Int32) (x_directive_precision : Int32) (x_directive_conversion : Int32) (x_directive_next : Int32) (x_argumentCount : Int32) (x_lastFault : Int32) (x_lastPlace : Int32) (x_unnumbered : Int32) (x_previousArgument : Int32) (h_x h_x_directive h_x_format h_x_paper h_x_arguments h_x_composer : Nat) (sz : Nat) (out : Int32 × Int32) (hf : f_DP_chooseArgument x_directive_index x_directive_flags x_unnumbered x_previousArgument = some out) : Met l y_DP_chooseArgument w_DP_chooseArgument r_DP_chooseArgument (mm_pre (dC, dI) vwC (tyl cC cI cJ cQ) Z [(h_x, .inr (5, [.ref h_x_format, .ref h_x_paper, .ref h_x_arguments, .ref h_x_directive, .ref h_x_composer, .int x_argumentCount, .int x_lastFault, .int x_lastPlace, .int x_unnumbered, .int x_previousArgument])), (h_x_directive, .inr (2, [.int x_directive_index, .int x_directive_flags, .int x_directive_flagTwice, .int x_directive_width, .int x_directive_precision, .int x_directive_conversion, .int x_directive_next]))] sz [.ref h_x]) (mm_qi (dC, dI) vwC (tyl cC cI cJ cQ) (va_A [(h_x, .inr (5, [.ref h_x_format, .ref h_x_paper, .ref h_x_arguments, .ref h_x_directive, .ref h_x_composer, .int x_argumentCount, .int x_lastFault, .int x_lastPlace, .int x_unnumbered, .int x_previousArgument])), (h_x_directive, .inr (2, [.int x_directive_index, .int x_directive_flags, .int x_directive_flagTwice, .int x_directive_width, .int x_directive_precision, .int x_directive_conversion, .int x_directive_next]))] sz) [(h_x, .inr (5, [.ref h_x_format, .ref h_x_paper, .ref h_x_arguments, .ref h_x_directive, .ref h_x_composer, .int x_argumentCount, .int x_lastFault, .int x_lastPlace, .int out.2, .int x_previousArgument])), (h_x_directive, .inr (2, [.int x_directive_index, .int x_directive_flags, .int x_directive_flagTwice, .int x_directive_width, .int x_directive_precision, .int x_directive_conversion, .int x_directive_next]))] out.1) 0 0 (va_A [(h_x, .inr (5, [.ref h_x_format, .ref h_x_paper, .ref h_x_arguments, .ref h_x_directive, .ref h_x_composer, .int x_argumentCount, .int x_lastFault, .int x_lastPlace, .int x_unnumbered, .int x_previousArgument])), (h_x_directive, .inr (2, [.int x_directive_index, .int x_directive_flags, .int x_directive_flagTwice, .int x_directive_width, .int x_directive_precision, .int x_directive_conversion, .int x_directive_next]))] sz) := by
  refine mm_of (own := "DirectivePrinter") (cc := b_DP_chooseArgument) (maxL := 1) (ret := (some .int)) (by decide) rfl rfl ?_
  intro p e s m below meth c hsz C0 hw hname
  generalize (va_A [(h_x, .inr (5, [.ref h_x_format, .ref h_x_paper, .ref h_x_arguments, .ref h_x_directive, .ref h_x_composer, .int x_argumentCount, .int x_lastFault, .int x_lastPlace, .int x_unnumbered, .int x_previousArgument])), (h_x_directive, .inr (2, [.int x_directive_index, .int x_directive_flags, .int x_directive_flagTwice, .int x_directive_width, .int x_directive_precision, .int x_directive_conversion, .int x_directive_next]))] sz) = A at C0 hw ⊢
  have hl := lv_entry ([.ref h_x]) (n := 1) (Nat.le_of_ble_eq_true rfl)
  rw [lg_entry_eq]
  generalize (lg_sl ([.ref h_x]) ++ List.replicate (1 - (lg_sl ([.ref h_x])).length) Slot.unset).toArray = ls at hl ⊢
  have hl : lv_has ls 1 [(0, .ref h_x)] := hl
  obtain ⟨hx, hb, hr, hml, hown, hts, hlocks, hK, hZ, hA⟩ := id C0
  generalize s.heap = H at hw ⊢
  unfold f_DP_chooseArgument at hf
  refine lv_aload_n hx hb d_DP_chooseArgument_0 rfl (lv_at hl 0 rfl) ?_
  refine va_get (D := (dC, dI)) (ci := 5) (v := .ref h_x_directive) (C := "DirectivePrinter") (T := T_DP) (N := 10) hx hb hts (mm_up i_DP) hown hK hw.1 0 rfl rfl 3 (by decide) (hts _ (List.mem_cons_of_mem _ q_210)) (fun _ h9 => h9) rfl d_DP_chooseArgument_1 ?_
  refine lv_bipush (v := (64 : Int32)) hx hb d_DP_chooseArgument_4 (by decide) ?_
  obtain ⟨r_1, hu, hf⟩ := mm_b1_ok hf
  refine mm_ci (wr := [(h_x, .inr (5, [.ref h_x_format, .ref h_x_paper, .ref h_x_arguments, .ref h_x_directive, .ref h_x_composer, .int x_argumentCount, .int x_lastFault, .int x_lastPlace, .int x_unnumbered, .int x_previousArgument]))]) (va_runV (As := [.int (64 : Int32)]) (rest := []) ⟨hx, hb, hml, hown, hts⟩ (c_Directive_has l Zo dC dI cC cI cJ cQ x_directive_index x_directive_flags x_directive_flagTwice x_directive_width x_directive_precision x_directive_conversion x_directive_next (64 : Int32) h_x_directive H.size r_1 hu) (cwV 1 hts (mm_gV q_427 q_390 q_391 q_60 q_392) rfl rfl rfl (by decide +kernel) ⟨Nat.le_of_ble_eq_true rfl, Nat.le_of_ble_eq_true rfl⟩) (mm_pv Zo.1 hK hw hZ hA [1] (by decide) rfl rfl (ci := 2) (q0 := 0) rfl rfl) rfl rfl hl.1 rfl (lv_room (Nat.le_of_ble_eq_true rfl)) d_DP_chooseArgument_6 ⟨Nat.le_refl _, Nat.le_refl _⟩) hw hA [1] [0] rfl rfl (by decide) (by decide) (fun H locs hw => ?_)
  have hw : mm_w (dC, dI) vwC A s [(h_x, .inr (5, [.ref h_x_format, .ref h_x_paper, .ref h_x_arguments, .ref h_x_directive, .ref h_x_composer, .int x_argumentCount, .int x_lastFault, .int x_lastPlace, .int x_unnumbered, .int x_previousArgument])), (h_x_directive, .inr (2, [.int x_directive_index, .int x_directive_flags, .int x_directive_flagTwice, .int x_directive_width, .int x_directive_precision, .int x_directive_conversion, .int x_directive_next]))] H locs := hw
  refine lv_if_eq (tgt := 17) hx hb d_DP_chooseArgument_9 (by decide) (fun hc => ?_) (fun hc => ?_)
  · replace hf := mm_ip hc hf
    refine lv_aload_n hx hb d_DP_chooseArgument_17 rfl (lv_at hl 0 rfl) ?_
    refine va_get (D := (dC, dI)) (ci := 5) (v := .ref h_x_directive) (C := "DirectivePrinter") (T := T_DP) (N := 10) hx hb hts (mm_up i_DP) hown hK hw.1 0 rfl rfl 3 (by decide) (hts _ (List.mem_cons_of_mem _ q_210)) (fun _ h9 => h9) rfl d_DP_chooseArgument_18 ?_
    refine va_getN (D := (dC, dI)) (ci := 2) (v := .int x_directive_index) (C := "DirectivePrinter$Directive") (T := T_Directive) (N := 7) hx hb hts (mm_up i_Directive) hown hK hw.1 1 rfl rfl 0 (by decide) (va_Nw.use rfl ((Zo.2 _ _ _ hZ).1 _ (List.mem_of_getElem? (i := 8) rfl))) (fun _ h9 => h9) rfl d_DP_chooseArgument_21 ?_
    refine lv_iconst (v := (-1 : Int32)) hx hb d_DP_chooseArgument_24 (by decide) ?_
    refine lv_icmp_eq (tgt := 36) hx hb d_DP_chooseArgument_25 (by decide) (fun hc => ?_) (fun hc => ?_)
    · replace hf := mm_ip hc hf
      refine lv_aload_n hx hb d_DP_chooseArgument_36 rfl (lv_at hl 0 rfl) ?_
      refine lv_dup hx hb d_DP_chooseArgument_37 rfl ?_
      refine va_get (D := (dC, dI)) (ci := 5) (v := .int x_unnumbered) (C := "DirectivePrinter") (T := T_DP) (N := 10) hx hb hts (mm_up i_DP) hown hK hw.1 0 rfl rfl 8 (by decide) (hts _ (List.mem_cons_of_mem _ q_215)) (fun _ h9 => h9) rfl d_DP_chooseArgument_38 ?_
      refine lv_iconst (v := (1 : Int32)) hx hb d_DP_chooseArgument_41 (by decide) ?_
      refine lv_iadd hx hb d_DP_chooseArgument_42 ?_
      refine va_put (D := (dC, dI)) (ci := 5) (v := .int (x_unnumbered + (1 : Int32))) (ty := .int) (C := "DirectivePrinter") (T := T_DP) (N := 10) hx hb hts (mm_up i_DP) t_DP t_DP_ok n_DP hown hK hw.1 hw.2.1 hw.2.2 0 rfl rfl 8 (by decide) (hts _ (List.mem_cons_of_mem _ q_215)) (fun _ h9 => h9) rfl (by decide +kernel) rfl rfl (Nat.le_of_ble_eq_true rfl) d_DP_chooseArgument_43 (fun H locs hP hD hS => ?_)
      have hw : mm_w (dC, dI) vwC A s [(h_x, .inr (5, [.ref h_x_format, .ref h_x_paper, .ref h_x_arguments, .ref h_x_directive, .ref h_x_composer, .int x_argumentCount, .int x_lastFault, .int x_lastPlace, .int (x_unnumbered + (1 : Int32)), .int x_previousArgument])), (h_x_directive, .inr (2, [.int x_directive_index, .int x_directive_flags, .int x_directive_flagTwice, .int x_directive_width, .int x_directive_precision, .int x_directive_conversion, .int x_directive_next]))] H locs := ⟨hP, hD, hS⟩
      refine lv_aload_n hx hb d_DP_chooseArgument_46 rfl (lv_at hl 0 rfl) ?_
      refine va_get (D := (dC, dI)) (ci := 5) (v := .int (x_unnumbered + (1 : Int32))) (C := "DirectivePrinter") (T := T_DP) (N := 10) hx hb hts (mm_up i_DP) hown hK hw.1 0 rfl rfl 8 (by decide) (hts _ (List.mem_cons_of_mem _ q_215)) (fun _ h9 => h9) rfl d_DP_chooseArgument_47 ?_
      obtain rfl := Option.some.inj hf
      exact mm_iret hx hb hr hlocks hK (mm_wsub hw [0, 1] (by decide) rfl rfl) rfl d_DP_chooseArgument_50
    · replace hf := mm_in hc hf
      refine lv_aload_n hx hb d_DP_chooseArgument_28 rfl (lv_at hl 0 rfl) ?_
      refine va_get (D := (dC, dI)) (ci := 5) (v := .ref h_x_directive) (C := "DirectivePrinter") (T := T_DP) (N := 10) hx hb hts (mm_up i_DP) hown hK hw.1 0 rfl rfl 3 (by decide) (hts _ (List.mem_cons_of_mem _ q_210)) (fun _ h9 => h9) rfl d_DP_chooseArgument_29 ?_
      refine va_getN (D := (dC, dI)) (ci := 2) (v := .int x_directive_index) (C := "DirectivePrinter$Directive") (T := T_Directive) (N := 7) hx hb hts (mm_up i_Directive) hown hK hw.1 1 rfl rfl 0 (by decide) (va_Nw.use rfl ((Zo.2 _ _ _ hZ).1 _ (List.mem_of_getElem? (i := 8) rfl))) (fun _ h9 => h9) rfl d_DP_chooseArgument_32 ?_
      obtain rfl := Option.some.inj hf
      exact mm_iret hx hb hr hlocks hK (mm_wsub hw [0, 1] (by decide) rfl rfl) rfl d_DP_chooseArgument_35
  · replace hf := mm_in hc hf
    refine lv_aload_n hx hb d_DP_chooseArgument_12 rfl (lv_at hl 0 rfl) ?_
    refine va_get (D := (dC, dI)) (ci := 5) (v := .int x_previousArgument) (C := "DirectivePrinter") (T := T_DP) (N := 10) hx hb hts (mm_up i_DP) hown hK hw.1 0 rfl rfl 9 (by decide) (hts _ (List.mem_cons_of_mem _ q_216)) (fun _ h9 => h9) rfl d_DP_chooseArgument_13 ?_
    obtain rfl := Option.some.inj hf
    exact mm_iret hx hb hr hlocks hK (mm_wsub hw [0, 1] (by decide) rfl rfl) rfl d_DP_chooseArgument_16
/-! DirectivePrinter.faultOfArgument(LDirectivePrinter$Argument;)I -/
def f_DP_faultOfArgument : Option (Int32) := some ((9 : Int32))
abbrev r_DP_faultOfArgument : Room := { frames := 0, cells := 0, slots := 0, locals := 0 }
set_option maxHeartbeats 4000000 in
set_option maxRecDepth 100000 in
theorem c_DP_faultOfArgument (l : Launch) {Z : (Nat → Prop) → State → Heap → Prop} {ad adK adV : Nat → Nat} (Zo : mm_Zx Z ad adK adV) (dC : Nat → ClassId) (dI : Nat → Nat → Nat) (cC cI cJ cQ : ClassId) (x_directive_index : Int32) (x_directive_flags : Int32) (x_directive_flagTwice : Int32) (x_directive_width : Int32) (x_directive_precision : Int32) (x_directive_conversion : Int32) (x_directive_next : Int32) (x_argumentCount : Int32) (x_lastFault : Int32) (x_lastPlace : Int32) (x_unnumbered : Int32) (x_previousArgument : Int32) (h_x h_x_directive h_x_format h_x_paper h_x_arguments h_x_composer : Nat) (sz : Nat) (out : Int32) (hf : f_DP_faultOfArgument  = some out) : Met l y_DP_faultOfArgument w_DP_faultOfArgument r_DP_faultOfArgument (mm_pre (dC, dI) vwC (tyl cC cI cJ cQ) Z [(h_x, .inr (5, [.ref h_x_format, .ref h_x_paper, .ref h_x_arguments, .ref h_x_directive, .ref h_x_composer, .int x_argumentCount, .int x_lastFault, .int x_lastPlace, .int x_unnumbered, .int x_previousArgument])), (h_x_directive, .inr (2, [.int x_directive_index, .int x_directive_flags, .int x_directive_flagTwice, .int x_directive_width, .int x_directive_precision, .int x_directive_conversion, .int x_directive_next]))] sz [.ref h_x, .null]) (mm_qi (dC, dI) vwC (tyl cC cI cJ cQ) (va_A [(h_x, .inr (5, [.ref h_x_format, .ref h_x_paper, .ref h_x_arguments, .ref h_x_directive, .ref h_x_composer, .int x_argumentCount, .int x_lastFault, .int x_lastPlace, .int x_unnumbered, .int x_previousArgument])), (h_x_directive, .inr (2, [.int x_directive_index, .int x_directive_flags, .int x_directive_flagTwice, .int x_directive_width, .int x_directive_precision, .int x_directive_conversion, .int x_directive_next]))] sz) [(h_x, .inr (5, [.ref h_x_format, .ref h_x_paper, .ref h_x_arguments, .ref h_x_directive, .ref h_x_composer, .int x_argumentCount, .int x_lastFault, .int x_lastPlace, .int x_unnumbered, .int x_previousArgument])), (h_x_directive, .inr (2, [.int x_directive_index, .int x_directive_flags, .int x_directive_flagTwice, .int x_directive_width, .int x_directive_precision, .int x_directive_conversion, .int x_directive_next]))] out) 0 0 (va_A [(h_x, .inr (5, [.ref h_x_format, .ref h_x_paper, .ref h_x_arguments, .ref h_x_directive, .ref h_x_composer, .int x_argumentCount, .int x_lastFault, .int x_lastPlace, .int x_unnumbered, .int x_previousArgument])), (h_x_directive, .inr (2, [.int x_directive_index, .int x_directive_flags, .int x_directive_flagTwice, .int x_directive_width, .int x_directive_precision, .int x_directive_conversion, .int x_directive_next]))] sz) := by
  refine mm_of (own := "DirectivePrinter") (cc := b_DP_faultOfArgument) (maxL := 2) (ret := (some .int)) (by decide) rfl rfl ?_
  intro p e s m below meth c hsz C0 hw hname
  generalize (va_A [(h_x, .inr (5, [.ref h_x_format, .ref h_x_paper, .ref h_x_arguments, .ref h_x_directive, .ref h_x_composer, .int x_argumentCount, .int x_lastFault, .int x_lastPlace, .int x_unnumbered, .int x_previousArgument])), (h_x_directive, .inr (2, [.int x_directive_index, .int x_directive_flags, .int x_directive_flagTwice, .int x_directive_width, .int x_directive_precision, .int x_directive_conversion, .int x_directive_next]))] sz) = A at C0 hw ⊢
  have hl := lv_entry ([.ref h_x, .null]) (n := 2) (Nat.le_of_ble_eq_true rfl)
  rw [lg_entry_eq]
  generalize (lg_sl ([.ref h_x, .null]) ++ List.replicate (2 - (lg_sl ([.ref h_x, .null])).length) Slot.unset).toArray = ls at hl ⊢
  have hl : lv_has ls 2 [(0, .ref h_x), (1, .null)] := hl
  obtain ⟨hx, hb, hr, hml, hown, hts, hlocks, hK, hZ, hA⟩ := id C0
  generalize s.heap = H at hw ⊢
  unfold f_DP_faultOfArgument at hf
  refine lv_aload_nN hx hb d_DP_faultOfArgument_0 rfl (lv_at hl 1 rfl) ?_
  refine lv_ifnonnullN hx hb d_DP_faultOfArgument_1 ?_
  refine lv_bipush (v := (9 : Int32)) hx hb d_DP_faultOfArgument_4 (by decide) ?_
  refine lv_goto (tgt := 20) hx hb d_DP_faultOfArgument_6 (by decide) ?_
  obtain rfl := Option.some.inj hf
  exact mm_iret hx hb hr hlocks hK (mm_wsub hw [0, 1] (by decide) rfl rfl) rfl d_DP_faultOfArgument_20
/-! DirectivePrinter.faultOfArgument(LDirectivePrinter$Argument;)I -/
def f_DP_faultOfArgument_A (x_directive_conversion : Int32) (a_kind : Nat) (a_value : Int64) (a_size : Int32) : Option (Int32) := mm_b1 (f_Directive_smallConversion x_directive_conversion) (fun r_1 => mm_b1 (f_Argument_faultWith a_kind a_value a_size r_1) (fun r_2 => some (r_2)))
abbrev r_DP_faultOfArgument_A : Room := { frames := 2, cells := 0, slots := 0, locals := 42 }
set_option maxHeartbeats 4000000 in
set_option maxRecDepth 100000 in
theorem c_DP_faultOfArgument_A (l : Launch) {Z : (Nat → Prop) → State → Heap → Prop} {ad adK adV : Nat → Nat} (Zo : mm_Zx Z ad adK adV) (dC : Nat → ClassId) (dI : Nat → Nat → Nat) (cC cI cJ cQ : ClassId) (x_directive_index : Int32) (x_directive_flags : Int32) (x_directive_flagTwice : Int32) (x_directive_width : Int32) (x_directive_precision : Int32) (x_directive_conversion : Int32) (x_directive_next : Int32) (x_argumentCount : Int32) (x_lastFault : Int32) (x_lastPlace : Int32) (x_unnumbered : Int32) (x_previousArgument : Int32) (a_kind : Nat) (a_value : Int64) (a_size : Int32) (a_characters_kept_n : Nat) (a_characters_kept : Nat → Int32) (a_characters_length : Int32) (h_a_kind_lt : a_kind < 6) (h_x h_x_directive h_a h_a_characters h_a_characters_kept h_x_format h_x_paper h_x_arguments h_x_composer : Nat) (sz : Nat) (out : Int32) (hf : f_DP_faultOfArgument_A x_directive_conversion a_kind a_value a_size = some out) : Met l y_DP_faultOfArgument w_DP_faultOfArgument r_DP_faultOfArgument_A (mm_pre (dC, dI) vwC (tyl cC cI cJ cQ) Z [(h_x, .inr (5, [.ref h_x_format, .ref h_x_paper, .ref h_x_arguments, .ref h_x_directive, .ref h_x_composer, .int x_argumentCount, .int x_lastFault, .int x_lastPlace, .int x_unnumbered, .int x_previousArgument])), (h_x_directive, .inr (2, [.int x_directive_index, .int x_directive_flags, .int x_directive_flagTwice, .int x_directive_width, .int x_directive_precision, .int x_directive_conversion, .int x_directive_next])), (h_a, .inr (3, [.ref (ad a_kind), .long a_value, .int a_size, .ref h_a_characters])), (h_a_characters, .inr (0, [.ref h_a_characters_kept, .int a_characters_length])), (h_a_characters_kept, .inl (cC, a_characters_kept_n, .inl a_characters_kept))] sz [.ref h_x, .ref h_a]) (mm_qi (dC, dI) vwC (tyl cC cI cJ cQ) (va_A [(h_x, .inr (5, [.ref h_x_format, .ref h_x_paper, .ref h_x_arguments, .ref h_x_directive, .ref h_x_composer, .int x_argumentCount, .int x_lastFault, .int x_lastPlace, .int x_unnumbered, .int x_previousArgument])), (h_x_directive, .inr (2, [.int x_directive_index, .int x_directive_flags, .int x_directive_flagTwice, .int x_directive_width, .int x_directive_precision, .int x_directive_conversion, .int x_directive_next])), (h_a, .inr (3, [.ref (ad a_kind), .long a_value, .int a_size, .ref h_a_characters])), (h_a_characters, .inr (0, [.ref h_a_characters_kept, .int a_characters_length])), (h_a_characters_kept, .inl (cC, a_characters_kept_n, .inl a_characters_kept))] sz) [(h_x, .inr (5, [.ref h_x_format, .ref h_x_paper, .ref h_x_arguments, .ref h_x_directive, .ref h_x_composer, .int x_argumentCount, .int x_lastFault, .int x_lastPlace, .int x_unnumbered, .int x_previousArgument])), (h_x_directive, .inr (2, [.int x_directive_index, .int x_directive_flags, .int x_directive_flagTwice, .int x_directive_width, .int x_directive_precision, .int x_directive_conversion, .int x_directive_next])), (h_a, .inr (3, [.ref (ad a_kind), .long a_value, .int a_size, .ref h_a_characters])), (h_a_characters, .inr (0, [.ref h_a_characters_kept, .int a_characters_length])), (h_a_characters_kept, .inl (cC, a_characters_kept_n, .inl a_characters_kept))] out) 0 0 (va_A [(h_x, .inr (5, [.ref h_x_format, .ref h_x_paper, .ref h_x_arguments, .ref h_x_directive, .ref h_x_composer, .int x_argumentCount, .int x_lastFault, .int x_lastPlace, .int x_unnumbered, .int x_previousArgument])), (h_x_directive, .inr (2, [.int x_directive_index, .int x_directive_flags, .int x_directive_flagTwice, .int x_directive_width, .int x_directive_precision, .int x_directive_conversion, .int x_directive_next])), (h_a, .inr (3, [.ref (ad a_kind), .long a_value, .int a_size, .ref h_a_characters])), (h_a_characters, .inr (0, [.ref h_a_characters_kept, .int a_characters_length])), (h_a_characters_kept, .inl (cC, a_characters_kept_n, .inl a_characters_kept))] sz) := by
  refine mm_of (own := "DirectivePrinter") (cc := b_DP_faultOfArgument) (maxL := 2) (ret := (some .int)) (by decide) rfl rfl ?_
  intro p e s m below meth c hsz C0 hw hname
  generalize (va_A [(h_x, .inr (5, [.ref h_x_format, .ref h_x_paper, .ref h_x_arguments, .ref h_x_directive, .ref h_x_composer, .int x_argumentCount, .int x_lastFault, .int x_lastPlace, .int x_unnumbered, .int x_previousArgument])), (h_x_directive, .inr (2, [.int x_directive_index, .int x_directive_flags, .int x_directive_flagTwice, .int x_directive_width, .int x_directive_precision, .int x_directive_conversion, .int x_directive_next])), (h_a, .inr (3, [.ref (ad a_kind), .long a_value, .int a_size, .ref h_a_characters])), (h_a_characters, .inr (0, [.ref h_a_characters_kept, .int a_characters_length])), (h_a_characters_kept, .inl (cC, a_characters_kept_n, .inl a_characters_kept))] sz) = A at C0 hw ⊢
  have hl := lv_entry ([.ref h_x, .ref h_a]) (n := 2) (Nat.le_of_ble_eq_true rfl)
  rw [lg_entry_eq]
  generalize (lg_sl ([.ref h_x, .ref h_a]) ++ List.replicate (2 - (lg_sl ([.ref h_x, .ref h_a])).length) Slot.unset).toArray = ls at hl ⊢
  have hl : lv_has ls 2 [(0, .ref h_x), (1, .ref h_a)] := hl
  obtain ⟨hx, hb, hr, hml, hown, hts, hlocks, hK, hZ, hA⟩ := id C0
  generalize s.heap = H at hw ⊢
  unfold f_DP_faultOfArgument_A at hf
  refine lv_aload_n hx hb d_DP_faultOfArgument_0 rfl (lv_at hl 1 rfl) ?_
  refine lv_ifnonnull (tgt := 9) hx hb d_DP_faultOfArgument_1 (by decide) ?_
  refine lv_aload_n hx hb d_DP_faultOfArgument_9 rfl (lv_at hl 1 rfl) ?_
  refine lv_aload_n hx hb d_DP_faultOfArgument_10 rfl (lv_at hl 0 rfl) ?_
  refine va_get (D := (dC, dI)) (ci := 5) (v := .ref h_x_directive) (C := "DirectivePrinter") (T := T_DP) (N := 10) hx hb hts (mm_up i_DP) hown hK hw.1 0 rfl rfl 3 (by decide) (hts _ (List.mem_cons_of_mem _ q_210)) (fun _ h9 => h9) rfl d_DP_faultOfArgument_11 ?_
  obtain ⟨r_1, hu, hf⟩ := mm_b1_ok hf
  refine mm_ci (wr := [(h_x, .inr (5, [.ref h_x_format, .ref h_x_paper, .ref h_x_arguments, .ref h_x_directive, .ref h_x_composer, .int x_argumentCount, .int x_lastFault, .int x_lastPlace, .int x_unnumbered, .int x_previousArgument])), (h_a, .inr (3, [.ref (ad a_kind), .long a_value, .int a_size, .ref h_a_characters])), (h_a_characters, .inr (0, [.ref h_a_characters_kept, .int a_characters_length])), (h_a_characters_kept, .inl (cC, a_characters_kept_n, .inl a_characters_kept))]) (va_runV (As := []) (rest := [.ref h_a]) ⟨hx, hb, hml, hown, hts⟩ (c_Directive_smallConversion l Zo dC dI cC cI cJ cQ x_directive_index x_directive_flags x_directive_flagTwice x_directive_width x_directive_precision x_directive_conversion x_directive_next h_x_directive H.size r_1 hu) (cwV 0 hts (mm_gV q_436 q_412 q_413 q_60 q_414) rfl rfl rfl (by decide +kernel) ⟨Nat.le_of_ble_eq_true rfl, Nat.le_of_ble_eq_true rfl⟩) (mm_pv Zo.1 hK hw hZ hA [1] (by decide) rfl rfl (ci := 2) (q0 := 0) rfl rfl) rfl rfl hl.1 rfl (lv_room (Nat.le_of_ble_eq_true rfl)) d_DP_faultOfArgument_14 ⟨Nat.le_refl _, Nat.le_refl _⟩) hw hA [1] [0, 2, 3, 4] rfl rfl (by decide) (by decide) (fun H locs hw => ?_)
  have hw : mm_w (dC, dI) vwC A s [(h_x, .inr (5, [.ref h_x_format, .ref h_x_paper, .ref h_x_arguments, .ref h_x_directive, .ref h_x_composer, .int x_argumentCount, .int x_lastFault, .int x_lastPlace, .int x_unnumbered, .int x_previousArgument])), (h_a, .inr (3, [.ref (ad a_kind), .long a_value, .int a_size, .ref h_a_characters])), (h_a_characters, .inr (0, [.ref h_a_characters_kept, .int a_characters_length])), (h_a_characters_kept, .inl (cC, a_characters_kept_n, .inl a_characters_kept)), (h_x_directive, .inr (2, [.int x_directive_index, .int x_directive_flags, .int x_directive_flagTwice, .int x_directive_width, .int x_directive_precision, .int x_directive_conversion, .int x_directive_next]))] H locs := hw
  obtain ⟨r_2, hu, hf⟩ := mm_b1_ok hf
  refine mm_ci (wr := [(h_x, .inr (5, [.ref h_x_format, .ref h_x_paper, .ref h_x_arguments, .ref h_x_directive, .ref h_x_composer, .int x_argumentCount, .int x_lastFault, .int x_lastPlace, .int x_unnumbered, .int x_previousArgument])), (h_x_directive, .inr (2, [.int x_directive_index, .int x_directive_flags, .int x_directive_flagTwice, .int x_directive_width, .int x_directive_precision, .int x_directive_conversion, .int x_directive_next]))]) (va_runV (As := [.int r_1]) (rest := []) ⟨hx, hb, hml, hown, hts⟩ (c_Argument_faultWith l Zo dC dI cC cI cJ cQ a_kind a_value a_size a_characters_kept_n a_characters_kept a_characters_length r_1 h_a_kind_lt h_a h_a_characters h_a_characters_kept H.size r_2 hu) (cwV 1 hts (mm_gV q_437 q_438 q_439 q_57 q_440) rfl rfl rfl (by decide +kernel) ⟨Nat.le_of_ble_eq_true rfl, Nat.le_of_ble_eq_true rfl⟩) (mm_pv Zo.1 hK hw hZ hA [1, 2, 3] (by decide) rfl rfl (ci := 3) (q0 := 0) rfl rfl) rfl rfl hl.1 rfl (lv_room (Nat.le_of_ble_eq_true rfl)) d_DP_faultOfArgument_17 ⟨Nat.le_refl _, Nat.le_refl _⟩) hw hA [1, 2, 3] [0, 4] rfl rfl (by decide) (by decide) (fun H locs hw => ?_)
  have hw : mm_w (dC, dI) vwC A s [(h_x, .inr (5, [.ref h_x_format, .ref h_x_paper, .ref h_x_arguments, .ref h_x_directive, .ref h_x_composer, .int x_argumentCount, .int x_lastFault, .int x_lastPlace, .int x_unnumbered, .int x_previousArgument])), (h_x_directive, .inr (2, [.int x_directive_index, .int x_directive_flags, .int x_directive_flagTwice, .int x_directive_width, .int x_directive_precision, .int x_directive_conversion, .int x_directive_next])), (h_a, .inr (3, [.ref (ad a_kind), .long a_value, .int a_size, .ref h_a_characters])), (h_a_characters, .inr (0, [.ref h_a_characters_kept, .int a_characters_length])), (h_a_characters_kept, .inl (cC, a_characters_kept_n, .inl a_characters_kept))] H locs := hw
  obtain rfl := Option.some.inj hf
  exact mm_iret hx hb hr hlocks hK (mm_wsub hw [0, 1, 2, 3, 4] (by decide) rfl rfl) rfl d_DP_faultOfArgument_20
end
