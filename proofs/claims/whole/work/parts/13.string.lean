section
variable {p : Program} {l : Launch} {e : Env} {s : State} {m : MethodId} {args : Array Value} {below : List Frame} {meth : Method} {c : Code} {dC : Nat → ClassId} {dI : Nat → Nat → Nat} {cC cI cJ cQ : ClassId} {A : Nat → Prop} {Z : (Nat → Prop) → State → Heap → Prop} {ad adK adV : Nat → Nat}
abbrev b_String_coder : ByteArray := prog_17_method_152_code
abbrev y_String_coder : MethodName := ⟨"java/lang/String", "coder", "()B"⟩
def w_String_coder : List Cond := .code y_String_coder b_String_coder 1 (some .byte) :: lw_g
theorem d_String_coder_0 : decode b_String_coder 0 = .ok (.getstatic 38, 3) := by decide +kernel
theorem d_String_coder_3 : decode b_String_coder 3 = .ok (.ifCond .eq 10, 3) := by decide +kernel
theorem d_String_coder_6 : decode b_String_coder 6 = .ok (.aload_n 0, 1) := by decide +kernel
theorem d_String_coder_7 : decode b_String_coder 7 = .ok (.getfield 15, 3) := by decide +kernel
theorem d_String_coder_10 : decode b_String_coder 10 = .ok (.goto 4, 3) := by decide +kernel
theorem d_String_coder_13 : decode b_String_coder 13 = .ok (.iconst 1, 1) := by decide +kernel
theorem d_String_coder_14 : decode b_String_coder 14 = .ok (.ireturn, 1) := by decide +kernel
abbrev b_String_isLatin1 : ByteArray := prog_17_method_154_code
abbrev y_String_isLatin1 : MethodName := ⟨"java/lang/String", "isLatin1", "()Z"⟩
def w_String_isLatin1 : List Cond := .code y_String_isLatin1 b_String_isLatin1 1 (some .boolean) :: lw_g
theorem d_String_isLatin1_0 : decode b_String_isLatin1 0 = .ok (.getstatic 38, 3) := by decide +kernel
theorem d_String_isLatin1_3 : decode b_String_isLatin1 3 = .ok (.ifCond .eq 14, 3) := by decide +kernel
theorem d_String_isLatin1_6 : decode b_String_isLatin1 6 = .ok (.aload_n 0, 1) := by decide +kernel
theorem d_String_isLatin1_7 : decode b_String_isLatin1 7 = .ok (.getfield 15, 3) := by decide +kernel
theorem d_String_isLatin1_10 : decode b_String_isLatin1 10 = .ok (.ifCond .ne 7, 3) := by decide +kernel
theorem d_String_isLatin1_13 : decode b_String_isLatin1 13 = .ok (.iconst 1, 1) := by decide +kernel
theorem d_String_isLatin1_14 : decode b_String_isLatin1 14 = .ok (.goto 4, 3) := by decide +kernel
theorem d_String_isLatin1_17 : decode b_String_isLatin1 17 = .ok (.iconst 0, 1) := by decide +kernel
theorem d_String_isLatin1_18 : decode b_String_isLatin1 18 = .ok (.ireturn, 1) := by decide +kernel
abbrev b_String_length : ByteArray := prog_17_method_54_code
abbrev y_String_length : MethodName := ⟨"java/lang/String", "length", "()I"⟩
def w_String_length : List Cond := .code y_String_length b_String_length 1 (some .int) :: lw_g
theorem d_String_length_0 : decode b_String_length 0 = .ok (.aload_n 0, 1) := by decide +kernel
theorem d_String_length_1 : decode b_String_length 1 = .ok (.getfield 9, 3) := by decide +kernel
theorem d_String_length_4 : decode b_String_length 4 = .ok (.arraylength, 1) := by decide +kernel
theorem d_String_length_5 : decode b_String_length 5 = .ok (.aload_n 0, 1) := by decide +kernel
theorem d_String_length_6 : decode b_String_length 6 = .ok (.invokevirtual 335, 3) := by decide +kernel
theorem d_String_length_9 : decode b_String_length 9 = .ok (.ishr, 1) := by decide +kernel
theorem d_String_length_10 : decode b_String_length 10 = .ok (.ireturn, 1) := by decide +kernel
abbrev b_Precond_checkIndex : ByteArray := prog_21_method_11_code
abbrev y_Precond_checkIndex : MethodName := ⟨"jdk/internal/util/Preconditions", "checkIndex", "(IILjava/util/function/BiFunction;)I"⟩
def w_Precond_checkIndex : List Cond := .code y_Precond_checkIndex b_Precond_checkIndex 3 (some .int) :: lw_g
theorem d_Precond_checkIndex_0 : decode b_Precond_checkIndex 0 = .ok (.iload_n 0, 1) := by decide +kernel
theorem d_Precond_checkIndex_1 : decode b_Precond_checkIndex 1 = .ok (.ifCond .lt 8, 3) := by decide +kernel
theorem d_Precond_checkIndex_4 : decode b_Precond_checkIndex 4 = .ok (.iload_n 0, 1) := by decide +kernel
theorem d_Precond_checkIndex_5 : decode b_Precond_checkIndex 5 = .ok (.iload_n 1, 1) := by decide +kernel
theorem d_Precond_checkIndex_6 : decode b_Precond_checkIndex 6 = .ok (.if_icmp .lt 10, 3) := by decide +kernel
theorem d_Precond_checkIndex_9 : decode b_Precond_checkIndex 9 = .ok (.aload_n 2, 1) := by decide +kernel
theorem d_Precond_checkIndex_10 : decode b_Precond_checkIndex 10 = .ok (.iload_n 0, 1) := by decide +kernel
theorem d_Precond_checkIndex_11 : decode b_Precond_checkIndex 11 = .ok (.iload_n 1, 1) := by decide +kernel
theorem d_Precond_checkIndex_12 : decode b_Precond_checkIndex 12 = .ok (.invokestatic 95, 3) := by decide +kernel
theorem d_Precond_checkIndex_15 : decode b_Precond_checkIndex 15 = .ok (.athrow, 1) := by decide +kernel
theorem d_Precond_checkIndex_16 : decode b_Precond_checkIndex 16 = .ok (.iload_n 0, 1) := by decide +kernel
theorem d_Precond_checkIndex_17 : decode b_Precond_checkIndex 17 = .ok (.ireturn, 1) := by decide +kernel
abbrev b_String_checkIndex : ByteArray := prog_17_method_155_code
abbrev y_String_checkIndex : MethodName := ⟨"java/lang/String", "checkIndex", "(II)V"⟩
def w_String_checkIndex : List Cond := .code y_String_checkIndex b_String_checkIndex 2 none :: lw_g
theorem d_String_checkIndex_0 : decode b_String_checkIndex 0 = .ok (.iload_n 0, 1) := by decide +kernel
theorem d_String_checkIndex_1 : decode b_String_checkIndex 1 = .ok (.iload_n 1, 1) := by decide +kernel
theorem d_String_checkIndex_2 : decode b_String_checkIndex 2 = .ok (.getstatic 1053, 3) := by decide +kernel
theorem d_String_checkIndex_5 : decode b_String_checkIndex 5 = .ok (.invokestatic 1059, 3) := by decide +kernel
theorem d_String_checkIndex_8 : decode b_String_checkIndex 8 = .ok (.pop, 1) := by decide +kernel
theorem d_String_checkIndex_9 : decode b_String_checkIndex 9 = .ok (.return_, 1) := by decide +kernel
abbrev b_Latin_charAt : ByteArray := prog_18_method_2_code
abbrev y_Latin_charAt : MethodName := ⟨"java/lang/StringLatin1", "charAt", "([BI)C"⟩
def w_Latin_charAt : List Cond := .code y_Latin_charAt b_Latin_charAt 2 (some .char) :: lw_g
theorem d_Latin_charAt_0 : decode b_Latin_charAt 0 = .ok (.iload_n 1, 1) := by decide +kernel
theorem d_Latin_charAt_1 : decode b_Latin_charAt 1 = .ok (.aload_n 0, 1) := by decide +kernel
theorem d_Latin_charAt_2 : decode b_Latin_charAt 2 = .ok (.arraylength, 1) := by decide +kernel
theorem d_Latin_charAt_3 : decode b_Latin_charAt 3 = .ok (.invokestatic 9, 3) := by decide +kernel
theorem d_Latin_charAt_6 : decode b_Latin_charAt 6 = .ok (.aload_n 0, 1) := by decide +kernel
theorem d_Latin_charAt_7 : decode b_Latin_charAt 7 = .ok (.iload_n 1, 1) := by decide +kernel
theorem d_Latin_charAt_8 : decode b_Latin_charAt 8 = .ok (.baload, 1) := by decide +kernel
theorem d_Latin_charAt_9 : decode b_Latin_charAt 9 = .ok (.sipush 255, 3) := by decide +kernel
theorem d_Latin_charAt_12 : decode b_Latin_charAt 12 = .ok (.iand, 1) := by decide +kernel
theorem d_Latin_charAt_13 : decode b_Latin_charAt 13 = .ok (.i2c, 1) := by decide +kernel
theorem d_Latin_charAt_14 : decode b_Latin_charAt 14 = .ok (.ireturn, 1) := by decide +kernel
abbrev b_String_charAt : ByteArray := prog_17_method_56_code
abbrev y_String_charAt : MethodName := ⟨"java/lang/String", "charAt", "(I)C"⟩
def w_String_charAt : List Cond := .code y_String_charAt b_String_charAt 2 (some .char) :: lw_g
theorem d_String_charAt_0 : decode b_String_charAt 0 = .ok (.aload_n 0, 1) := by decide +kernel
theorem d_String_charAt_1 : decode b_String_charAt 1 = .ok (.invokevirtual 492, 3) := by decide +kernel
theorem d_String_charAt_4 : decode b_String_charAt 4 = .ok (.ifCond .eq 12, 3) := by decide +kernel
theorem d_String_charAt_7 : decode b_String_charAt 7 = .ok (.aload_n 0, 1) := by decide +kernel
theorem d_String_charAt_8 : decode b_String_charAt 8 = .ok (.getfield 9, 3) := by decide +kernel
theorem d_String_charAt_11 : decode b_String_charAt 11 = .ok (.iload_n 1, 1) := by decide +kernel
theorem d_String_charAt_12 : decode b_String_charAt 12 = .ok (.invokestatic 495, 3) := by decide +kernel
theorem d_String_charAt_15 : decode b_String_charAt 15 = .ok (.ireturn, 1) := by decide +kernel
theorem d_String_charAt_16 : decode b_String_charAt 16 = .ok (.aload_n 0, 1) := by decide +kernel
theorem d_String_charAt_17 : decode b_String_charAt 17 = .ok (.getfield 9, 3) := by decide +kernel
theorem d_String_charAt_20 : decode b_String_charAt 20 = .ok (.iload_n 1, 1) := by decide +kernel
theorem d_String_charAt_21 : decode b_String_charAt 21 = .ok (.invokestatic 498, 3) := by decide +kernel
theorem d_String_charAt_24 : decode b_String_charAt 24 = .ok (.ireturn, 1) := by decide +kernel
abbrev b_Latin_canEncode_1 : ByteArray := prog_18_method_4_code
abbrev y_Latin_canEncode_1 : MethodName := ⟨"java/lang/StringLatin1", "canEncode", "(I)Z"⟩
def w_Latin_canEncode_1 : List Cond := .code y_Latin_canEncode_1 b_Latin_canEncode_1 1 (some .boolean) :: lw_g
theorem d_Latin_canEncode_1_0 : decode b_Latin_canEncode_1 0 = .ok (.iload_n 0, 1) := by decide +kernel
theorem d_Latin_canEncode_1_1 : decode b_Latin_canEncode_1 1 = .ok (.ifCond .lt 14, 3) := by decide +kernel
theorem d_Latin_canEncode_1_4 : decode b_Latin_canEncode_1 4 = .ok (.iload_n 0, 1) := by decide +kernel
theorem d_Latin_canEncode_1_5 : decode b_Latin_canEncode_1 5 = .ok (.sipush 255, 3) := by decide +kernel
theorem d_Latin_canEncode_1_8 : decode b_Latin_canEncode_1 8 = .ok (.if_icmp .gt 7, 3) := by decide +kernel
theorem d_Latin_canEncode_1_11 : decode b_Latin_canEncode_1 11 = .ok (.iconst 1, 1) := by decide +kernel
theorem d_Latin_canEncode_1_12 : decode b_Latin_canEncode_1 12 = .ok (.goto 4, 3) := by decide +kernel
theorem d_Latin_canEncode_1_15 : decode b_Latin_canEncode_1 15 = .ok (.iconst 0, 1) := by decide +kernel
theorem d_Latin_canEncode_1_16 : decode b_Latin_canEncode_1 16 = .ok (.ireturn, 1) := by decide +kernel
abbrev b_Latin_indexOfChar : ByteArray := prog_18_method_23_code
abbrev y_Latin_indexOfChar : MethodName := ⟨"java/lang/StringLatin1", "indexOfChar", "([BIII)I"⟩
def w_Latin_indexOfChar : List Cond := .code y_Latin_indexOfChar b_Latin_indexOfChar 6 (some .int) :: lw_g
theorem d_Latin_indexOfChar_0 : decode b_Latin_indexOfChar 0 = .ok (.iload_n 1, 1) := by decide +kernel
theorem d_Latin_indexOfChar_1 : decode b_Latin_indexOfChar 1 = .ok (.i2b, 1) := by decide +kernel
theorem d_Latin_indexOfChar_2 : decode b_Latin_indexOfChar 2 = .ok (.istore 4, 2) := by decide +kernel
theorem d_Latin_indexOfChar_4 : decode b_Latin_indexOfChar 4 = .ok (.iload_n 2, 1) := by decide +kernel
theorem d_Latin_indexOfChar_5 : decode b_Latin_indexOfChar 5 = .ok (.istore 5, 2) := by decide +kernel
theorem d_Latin_indexOfChar_7 : decode b_Latin_indexOfChar 7 = .ok (.iload 5, 2) := by decide +kernel
theorem d_Latin_indexOfChar_9 : decode b_Latin_indexOfChar 9 = .ok (.iload_n 3, 1) := by decide +kernel
theorem d_Latin_indexOfChar_10 : decode b_Latin_indexOfChar 10 = .ok (.if_icmp .ge 21, 3) := by decide +kernel
theorem d_Latin_indexOfChar_13 : decode b_Latin_indexOfChar 13 = .ok (.aload_n 0, 1) := by decide +kernel
theorem d_Latin_indexOfChar_14 : decode b_Latin_indexOfChar 14 = .ok (.iload 5, 2) := by decide +kernel
theorem d_Latin_indexOfChar_16 : decode b_Latin_indexOfChar 16 = .ok (.baload, 1) := by decide +kernel
theorem d_Latin_indexOfChar_17 : decode b_Latin_indexOfChar 17 = .ok (.iload 4, 2) := by decide +kernel
theorem d_Latin_indexOfChar_19 : decode b_Latin_indexOfChar 19 = .ok (.if_icmp .ne 6, 3) := by decide +kernel
theorem d_Latin_indexOfChar_22 : decode b_Latin_indexOfChar 22 = .ok (.iload 5, 2) := by decide +kernel
theorem d_Latin_indexOfChar_24 : decode b_Latin_indexOfChar 24 = .ok (.ireturn, 1) := by decide +kernel
theorem d_Latin_indexOfChar_25 : decode b_Latin_indexOfChar 25 = .ok (.iinc 5 1, 3) := by decide +kernel
theorem d_Latin_indexOfChar_28 : decode b_Latin_indexOfChar 28 = .ok (.goto (-21), 3) := by decide +kernel
theorem d_Latin_indexOfChar_31 : decode b_Latin_indexOfChar 31 = .ok (.iconst (-1), 1) := by decide +kernel
theorem d_Latin_indexOfChar_32 : decode b_Latin_indexOfChar 32 = .ok (.ireturn, 1) := by decide +kernel
abbrev b_Latin_indexOf : ByteArray := prog_18_method_22_code
abbrev y_Latin_indexOf : MethodName := ⟨"java/lang/StringLatin1", "indexOf", "([BIII)I"⟩
def w_Latin_indexOf : List Cond := .code y_Latin_indexOf b_Latin_indexOf 4 (some .int) :: lw_g
theorem d_Latin_indexOf_0 : decode b_Latin_indexOf 0 = .ok (.iload_n 1, 1) := by decide +kernel
theorem d_Latin_indexOf_1 : decode b_Latin_indexOf 1 = .ok (.invokestatic 88, 3) := by decide +kernel
theorem d_Latin_indexOf_4 : decode b_Latin_indexOf 4 = .ok (.ifCond .ne 5, 3) := by decide +kernel
theorem d_Latin_indexOf_7 : decode b_Latin_indexOf 7 = .ok (.iconst (-1), 1) := by decide +kernel
theorem d_Latin_indexOf_8 : decode b_Latin_indexOf 8 = .ok (.ireturn, 1) := by decide +kernel
theorem d_Latin_indexOf_9 : decode b_Latin_indexOf 9 = .ok (.iload_n 2, 1) := by decide +kernel
theorem d_Latin_indexOf_10 : decode b_Latin_indexOf 10 = .ok (.iconst 0, 1) := by decide +kernel
theorem d_Latin_indexOf_11 : decode b_Latin_indexOf 11 = .ok (.invokestatic 92, 3) := by decide +kernel
theorem d_Latin_indexOf_14 : decode b_Latin_indexOf 14 = .ok (.istore_n 2, 1) := by decide +kernel
theorem d_Latin_indexOf_15 : decode b_Latin_indexOf 15 = .ok (.iload_n 3, 1) := by decide +kernel
theorem d_Latin_indexOf_16 : decode b_Latin_indexOf 16 = .ok (.aload_n 0, 1) := by decide +kernel
theorem d_Latin_indexOf_17 : decode b_Latin_indexOf 17 = .ok (.arraylength, 1) := by decide +kernel
theorem d_Latin_indexOf_18 : decode b_Latin_indexOf 18 = .ok (.invokestatic 38, 3) := by decide +kernel
theorem d_Latin_indexOf_21 : decode b_Latin_indexOf 21 = .ok (.istore_n 3, 1) := by decide +kernel
theorem d_Latin_indexOf_22 : decode b_Latin_indexOf 22 = .ok (.iload_n 2, 1) := by decide +kernel
theorem d_Latin_indexOf_23 : decode b_Latin_indexOf 23 = .ok (.iload_n 3, 1) := by decide +kernel
theorem d_Latin_indexOf_24 : decode b_Latin_indexOf 24 = .ok (.if_icmp .lt 5, 3) := by decide +kernel
theorem d_Latin_indexOf_27 : decode b_Latin_indexOf 27 = .ok (.iconst (-1), 1) := by decide +kernel
theorem d_Latin_indexOf_28 : decode b_Latin_indexOf 28 = .ok (.ireturn, 1) := by decide +kernel
theorem d_Latin_indexOf_29 : decode b_Latin_indexOf 29 = .ok (.aload_n 0, 1) := by decide +kernel
theorem d_Latin_indexOf_30 : decode b_Latin_indexOf 30 = .ok (.iload_n 1, 1) := by decide +kernel
theorem d_Latin_indexOf_31 : decode b_Latin_indexOf 31 = .ok (.iload_n 2, 1) := by decide +kernel
theorem d_Latin_indexOf_32 : decode b_Latin_indexOf 32 = .ok (.iload_n 3, 1) := by decide +kernel
theorem d_Latin_indexOf_33 : decode b_Latin_indexOf 33 = .ok (.invokestatic 95, 3) := by decide +kernel
theorem d_Latin_indexOf_36 : decode b_Latin_indexOf 36 = .ok (.ireturn, 1) := by decide +kernel
abbrev b_String_indexOf_1 : ByteArray := prog_17_method_80_code
abbrev y_String_indexOf_1 : MethodName := ⟨"java/lang/String", "indexOf", "(II)I"⟩
def w_String_indexOf_1 : List Cond := .code y_String_indexOf_1 b_String_indexOf_1 3 (some .int) :: lw_g
theorem d_String_indexOf_1_0 : decode b_String_indexOf_1 0 = .ok (.aload_n 0, 1) := by decide +kernel
theorem d_String_indexOf_1_1 : decode b_String_indexOf_1 1 = .ok (.invokevirtual 492, 3) := by decide +kernel
theorem d_String_indexOf_1_4 : decode b_String_indexOf_1 4 = .ok (.ifCond .eq 19, 3) := by decide +kernel
theorem d_String_indexOf_1_7 : decode b_String_indexOf_1 7 = .ok (.aload_n 0, 1) := by decide +kernel
theorem d_String_indexOf_1_8 : decode b_String_indexOf_1 8 = .ok (.getfield 9, 3) := by decide +kernel
theorem d_String_indexOf_1_11 : decode b_String_indexOf_1 11 = .ok (.iload_n 1, 1) := by decide +kernel
theorem d_String_indexOf_1_12 : decode b_String_indexOf_1 12 = .ok (.iload_n 2, 1) := by decide +kernel
theorem d_String_indexOf_1_13 : decode b_String_indexOf_1 13 = .ok (.aload_n 0, 1) := by decide +kernel
theorem d_String_indexOf_1_14 : decode b_String_indexOf_1 14 = .ok (.invokevirtual 505, 3) := by decide +kernel
theorem d_String_indexOf_1_17 : decode b_String_indexOf_1 17 = .ok (.invokestatic 637, 3) := by decide +kernel
theorem d_String_indexOf_1_20 : decode b_String_indexOf_1 20 = .ok (.goto 16, 3) := by decide +kernel
theorem d_String_indexOf_1_23 : decode b_String_indexOf_1 23 = .ok (.aload_n 0, 1) := by decide +kernel
theorem d_String_indexOf_1_24 : decode b_String_indexOf_1 24 = .ok (.getfield 9, 3) := by decide +kernel
theorem d_String_indexOf_1_27 : decode b_String_indexOf_1 27 = .ok (.iload_n 1, 1) := by decide +kernel
theorem d_String_indexOf_1_28 : decode b_String_indexOf_1 28 = .ok (.iload_n 2, 1) := by decide +kernel
theorem d_String_indexOf_1_29 : decode b_String_indexOf_1 29 = .ok (.aload_n 0, 1) := by decide +kernel
theorem d_String_indexOf_1_30 : decode b_String_indexOf_1 30 = .ok (.invokevirtual 505, 3) := by decide +kernel
theorem d_String_indexOf_1_33 : decode b_String_indexOf_1 33 = .ok (.invokestatic 640, 3) := by decide +kernel
theorem d_String_indexOf_1_36 : decode b_String_indexOf_1 36 = .ok (.ireturn, 1) := by decide +kernel
abbrev b_String_indexOf : ByteArray := prog_17_method_79_code
abbrev y_String_indexOf : MethodName := ⟨"java/lang/String", "indexOf", "(I)I"⟩
def w_String_indexOf : List Cond := .code y_String_indexOf b_String_indexOf 2 (some .int) :: lw_g
theorem d_String_indexOf_0 : decode b_String_indexOf 0 = .ok (.aload_n 0, 1) := by decide +kernel
theorem d_String_indexOf_1 : decode b_String_indexOf 1 = .ok (.iload_n 1, 1) := by decide +kernel
theorem d_String_indexOf_2 : decode b_String_indexOf 2 = .ok (.iconst 0, 1) := by decide +kernel
theorem d_String_indexOf_3 : decode b_String_indexOf 3 = .ok (.invokevirtual 633, 3) := by decide +kernel
theorem d_String_indexOf_6 : decode b_String_indexOf 6 = .ok (.ireturn, 1) := by decide +kernel
set_option maxRecDepth 100000 in
theorem q_319 : (.fieldLink "java/lang/String" 38 "java/lang/String" "COMPACT_STRINGS" "Z" : Cond) ∈ lw_g := List.mem_filter.mpr ⟨List.mem_of_getElem? (i := 319) (by decide +kernel), by decide +kernel⟩
set_option maxRecDepth 100000 in
theorem q_1057 : (.fieldLink "java/lang/String" 15 "java/lang/String" "coder" "B" : Cond) ∈ lw_g := List.mem_filter.mpr ⟨List.mem_of_getElem? (i := 1057) (by decide +kernel), by decide +kernel⟩
set_option maxRecDepth 100000 in
theorem q_1058 : (.fieldLink "java/lang/String" 9 "java/lang/String" "value" "[B" : Cond) ∈ lw_g := List.mem_filter.mpr ⟨List.mem_of_getElem? (i := 1058) (by decide +kernel), by decide +kernel⟩
set_option maxRecDepth 100000 in
theorem q_325 : (.methodLink "java/lang/String" 335 ⟨"java/lang/String", "coder", "()B"⟩ : Cond) ∈ lw_g := List.mem_filter.mpr ⟨List.mem_of_getElem? (i := 325) (by decide +kernel), by decide +kernel⟩
set_option maxRecDepth 100000 in
theorem q_326 : (.instanceMethod ⟨"java/lang/String", "coder", "()B"⟩ : Cond) ∈ lw_g := List.mem_filter.mpr ⟨List.mem_of_getElem? (i := 326) (by decide +kernel), by decide +kernel⟩
set_option maxRecDepth 100000 in
theorem q_327 : (.selects "java/lang/String" ⟨"java/lang/String", "coder", "()B"⟩ ⟨"java/lang/String", "coder", "()B"⟩ : Cond) ∈ lw_g := List.mem_filter.mpr ⟨List.mem_of_getElem? (i := 327) (by decide +kernel), by decide +kernel⟩
set_option maxRecDepth 100000 in
theorem q_69 : (.initialized "java/lang/String" : Cond) ∈ lw_g := List.mem_filter.mpr ⟨List.mem_of_getElem? (i := 69) (by decide +kernel), by decide +kernel⟩
set_option maxRecDepth 100000 in
theorem q_328 : (.code ⟨"java/lang/String", "coder", "()B"⟩ prog_17_method_152_code 1 (Option.some FieldType.byte) : Cond) ∈ lw_g := List.mem_filter.mpr ⟨List.mem_of_getElem? (i := 328) (rfl), by decide +kernel⟩
set_option maxRecDepth 100000 in
theorem q_358 : (.fieldLink "java/lang/String" 1053 "jdk/internal/util/Preconditions" "SIOOBE_FORMATTER" "Ljava/util/function/BiFunction;" : Cond) ∈ lw_g := List.mem_filter.mpr ⟨List.mem_of_getElem? (i := 358) (by decide +kernel), by decide +kernel⟩
set_option maxRecDepth 100000 in
theorem q_484 : (.methodLink "java/lang/String" 1059 ⟨"jdk/internal/util/Preconditions", "checkIndex", "(IILjava/util/function/BiFunction;)I"⟩ : Cond) ∈ lw_g := List.mem_filter.mpr ⟨List.mem_of_getElem? (i := 484) (by decide +kernel), by decide +kernel⟩
set_option maxRecDepth 100000 in
theorem q_485 : (.static ⟨"jdk/internal/util/Preconditions", "checkIndex", "(IILjava/util/function/BiFunction;)I"⟩ : Cond) ∈ lw_g := List.mem_filter.mpr ⟨List.mem_of_getElem? (i := 485) (by decide +kernel), by decide +kernel⟩
set_option maxRecDepth 100000 in
theorem q_72 : (.initialized "jdk/internal/util/Preconditions" : Cond) ∈ lw_g := List.mem_filter.mpr ⟨List.mem_of_getElem? (i := 72) (by decide +kernel), by decide +kernel⟩
set_option maxRecDepth 100000 in
theorem q_486 : (.code ⟨"jdk/internal/util/Preconditions", "checkIndex", "(IILjava/util/function/BiFunction;)I"⟩ prog_21_method_11_code 3 (Option.some FieldType.int) : Cond) ∈ lw_g := List.mem_filter.mpr ⟨List.mem_of_getElem? (i := 486) (rfl), by decide +kernel⟩
set_option maxRecDepth 100000 in
theorem q_481 : (.methodLink "java/lang/StringLatin1" 9 ⟨"java/lang/String", "checkIndex", "(II)V"⟩ : Cond) ∈ lw_g := List.mem_filter.mpr ⟨List.mem_of_getElem? (i := 481) (by decide +kernel), by decide +kernel⟩
set_option maxRecDepth 100000 in
theorem q_482 : (.static ⟨"java/lang/String", "checkIndex", "(II)V"⟩ : Cond) ∈ lw_g := List.mem_filter.mpr ⟨List.mem_of_getElem? (i := 482) (by decide +kernel), by decide +kernel⟩
set_option maxRecDepth 100000 in
theorem q_483 : (.code ⟨"java/lang/String", "checkIndex", "(II)V"⟩ prog_17_method_155_code 2 (Option.none : Option FieldType) : Cond) ∈ lw_g := List.mem_filter.mpr ⟨List.mem_of_getElem? (i := 483) (rfl), by decide +kernel⟩
set_option maxRecDepth 100000 in
theorem q_315 : (.methodLink "java/lang/String" 492 ⟨"java/lang/String", "isLatin1", "()Z"⟩ : Cond) ∈ lw_g := List.mem_filter.mpr ⟨List.mem_of_getElem? (i := 315) (by decide +kernel), by decide +kernel⟩
set_option maxRecDepth 100000 in
theorem q_316 : (.instanceMethod ⟨"java/lang/String", "isLatin1", "()Z"⟩ : Cond) ∈ lw_g := List.mem_filter.mpr ⟨List.mem_of_getElem? (i := 316) (by decide +kernel), by decide +kernel⟩
set_option maxRecDepth 100000 in
theorem q_317 : (.selects "java/lang/String" ⟨"java/lang/String", "isLatin1", "()Z"⟩ ⟨"java/lang/String", "isLatin1", "()Z"⟩ : Cond) ∈ lw_g := List.mem_filter.mpr ⟨List.mem_of_getElem? (i := 317) (by decide +kernel), by decide +kernel⟩
set_option maxRecDepth 100000 in
theorem q_318 : (.code ⟨"java/lang/String", "isLatin1", "()Z"⟩ prog_17_method_154_code 1 (Option.some FieldType.boolean) : Cond) ∈ lw_g := List.mem_filter.mpr ⟨List.mem_of_getElem? (i := 318) (rfl), by decide +kernel⟩
set_option maxRecDepth 100000 in
theorem q_478 : (.methodLink "java/lang/String" 495 ⟨"java/lang/StringLatin1", "charAt", "([BI)C"⟩ : Cond) ∈ lw_g := List.mem_filter.mpr ⟨List.mem_of_getElem? (i := 478) (by decide +kernel), by decide +kernel⟩
set_option maxRecDepth 100000 in
theorem q_479 : (.static ⟨"java/lang/StringLatin1", "charAt", "([BI)C"⟩ : Cond) ∈ lw_g := List.mem_filter.mpr ⟨List.mem_of_getElem? (i := 479) (by decide +kernel), by decide +kernel⟩
set_option maxRecDepth 100000 in
theorem q_70 : (.initialized "java/lang/StringLatin1" : Cond) ∈ lw_g := List.mem_filter.mpr ⟨List.mem_of_getElem? (i := 70) (by decide +kernel), by decide +kernel⟩
set_option maxRecDepth 100000 in
theorem q_480 : (.code ⟨"java/lang/StringLatin1", "charAt", "([BI)C"⟩ prog_18_method_2_code 2 (Option.some FieldType.char) : Cond) ∈ lw_g := List.mem_filter.mpr ⟨List.mem_of_getElem? (i := 480) (rfl), by decide +kernel⟩
set_option maxRecDepth 100000 in
theorem q_332 : (.methodLink "java/lang/StringLatin1" 88 ⟨"java/lang/StringLatin1", "canEncode", "(I)Z"⟩ : Cond) ∈ lw_g := List.mem_filter.mpr ⟨List.mem_of_getElem? (i := 332) (by decide +kernel), by decide +kernel⟩
set_option maxRecDepth 100000 in
theorem q_333 : (.static ⟨"java/lang/StringLatin1", "canEncode", "(I)Z"⟩ : Cond) ∈ lw_g := List.mem_filter.mpr ⟨List.mem_of_getElem? (i := 333) (by decide +kernel), by decide +kernel⟩
set_option maxRecDepth 100000 in
theorem q_334 : (.code ⟨"java/lang/StringLatin1", "canEncode", "(I)Z"⟩ prog_18_method_4_code 1 (Option.some FieldType.boolean) : Cond) ∈ lw_g := List.mem_filter.mpr ⟨List.mem_of_getElem? (i := 334) (rfl), by decide +kernel⟩
set_option maxRecDepth 100000 in
theorem q_335 : (.methodLink "java/lang/StringLatin1" 92 ⟨"java/lang/Math", "max", "(II)I"⟩ : Cond) ∈ lw_g := List.mem_filter.mpr ⟨List.mem_of_getElem? (i := 335) (by decide +kernel), by decide +kernel⟩
set_option maxRecDepth 100000 in
theorem q_336 : (.methodLink "java/lang/StringLatin1" 38 ⟨"java/lang/Math", "min", "(II)I"⟩ : Cond) ∈ lw_g := List.mem_filter.mpr ⟨List.mem_of_getElem? (i := 336) (by decide +kernel), by decide +kernel⟩
set_option maxRecDepth 100000 in
theorem q_337 : (.methodLink "java/lang/StringLatin1" 95 ⟨"java/lang/StringLatin1", "indexOfChar", "([BIII)I"⟩ : Cond) ∈ lw_g := List.mem_filter.mpr ⟨List.mem_of_getElem? (i := 337) (by decide +kernel), by decide +kernel⟩
set_option maxRecDepth 100000 in
theorem q_338 : (.static ⟨"java/lang/StringLatin1", "indexOfChar", "([BIII)I"⟩ : Cond) ∈ lw_g := List.mem_filter.mpr ⟨List.mem_of_getElem? (i := 338) (by decide +kernel), by decide +kernel⟩
set_option maxRecDepth 100000 in
theorem q_339 : (.code ⟨"java/lang/StringLatin1", "indexOfChar", "([BIII)I"⟩ prog_18_method_23_code 6 (Option.some FieldType.int) : Cond) ∈ lw_g := List.mem_filter.mpr ⟨List.mem_of_getElem? (i := 339) (rfl), by decide +kernel⟩
set_option maxRecDepth 100000 in
theorem q_321 : (.methodLink "java/lang/String" 505 ⟨"java/lang/String", "length", "()I"⟩ : Cond) ∈ lw_g := List.mem_filter.mpr ⟨List.mem_of_getElem? (i := 321) (by decide +kernel), by decide +kernel⟩
set_option maxRecDepth 100000 in
theorem q_322 : (.instanceMethod ⟨"java/lang/String", "length", "()I"⟩ : Cond) ∈ lw_g := List.mem_filter.mpr ⟨List.mem_of_getElem? (i := 322) (by decide +kernel), by decide +kernel⟩
set_option maxRecDepth 100000 in
theorem q_323 : (.selects "java/lang/String" ⟨"java/lang/String", "length", "()I"⟩ ⟨"java/lang/String", "length", "()I"⟩ : Cond) ∈ lw_g := List.mem_filter.mpr ⟨List.mem_of_getElem? (i := 323) (by decide +kernel), by decide +kernel⟩
set_option maxRecDepth 100000 in
theorem q_324 : (.code ⟨"java/lang/String", "length", "()I"⟩ prog_17_method_54_code 1 (Option.some FieldType.int) : Cond) ∈ lw_g := List.mem_filter.mpr ⟨List.mem_of_getElem? (i := 324) (rfl), by decide +kernel⟩
set_option maxRecDepth 100000 in
theorem q_329 : (.methodLink "java/lang/String" 637 ⟨"java/lang/StringLatin1", "indexOf", "([BIII)I"⟩ : Cond) ∈ lw_g := List.mem_filter.mpr ⟨List.mem_of_getElem? (i := 329) (by decide +kernel), by decide +kernel⟩
set_option maxRecDepth 100000 in
theorem q_330 : (.static ⟨"java/lang/StringLatin1", "indexOf", "([BIII)I"⟩ : Cond) ∈ lw_g := List.mem_filter.mpr ⟨List.mem_of_getElem? (i := 330) (by decide +kernel), by decide +kernel⟩
set_option maxRecDepth 100000 in
theorem q_331 : (.code ⟨"java/lang/StringLatin1", "indexOf", "([BIII)I"⟩ prog_18_method_22_code 4 (Option.some FieldType.int) : Cond) ∈ lw_g := List.mem_filter.mpr ⟨List.mem_of_getElem? (i := 331) (rfl), by decide +kernel⟩
set_option maxRecDepth 100000 in
theorem q_311 : (.methodLink "java/lang/String" 633 ⟨"java/lang/String", "indexOf", "(II)I"⟩ : Cond) ∈ lw_g := List.mem_filter.mpr ⟨List.mem_of_getElem? (i := 311) (by decide +kernel), by decide +kernel⟩
set_option maxRecDepth 100000 in
theorem q_312 : (.instanceMethod ⟨"java/lang/String", "indexOf", "(II)I"⟩ : Cond) ∈ lw_g := List.mem_filter.mpr ⟨List.mem_of_getElem? (i := 312) (by decide +kernel), by decide +kernel⟩
set_option maxRecDepth 100000 in
theorem q_313 : (.selects "java/lang/String" ⟨"java/lang/String", "indexOf", "(II)I"⟩ ⟨"java/lang/String", "indexOf", "(II)I"⟩ : Cond) ∈ lw_g := List.mem_filter.mpr ⟨List.mem_of_getElem? (i := 313) (by decide +kernel), by decide +kernel⟩
set_option maxRecDepth 100000 in
theorem q_314 : (.code ⟨"java/lang/String", "indexOf", "(II)I"⟩ prog_17_method_80_code 3 (Option.some FieldType.int) : Cond) ∈ lw_g := List.mem_filter.mpr ⟨List.mem_of_getElem? (i := 314) (rfl), by decide +kernel⟩
/-! java/lang/String.coder()B -/
def f_String_coder : Option (Int32) := (if (1 : Int32) = 0 then some ((1 : Int32)) else some ((0 : Int32)))
abbrev r_String_coder : Room := { frames := 0, cells := 0, slots := 0, locals := 0 }
set_option maxHeartbeats 4000000 in
set_option maxRecDepth 100000 in
theorem c_String_coder (l : Launch) {Z : (Nat → Prop) → State → Heap → Prop} {ad adK adV : Nat → Nat} (Zo : mm_Zx Z ad adK adV) (dC : Nat → ClassId) (dI : Nat → Nat → Nat) (cC cI cJ cQ : ClassId) (k : Nat) (h_k_lt : k < NK) (sz : Nat) (out : Int32) (hf : f_String_coder  = some out) : Met l y_String_coder w_String_coder r_String_coder (mm_pre (dC, dI) vwC (tyl cC cI cJ cQ) Z [] sz [.ref (adK k)]) (mm_qi (dC, dI) vwC (tyl cC cI cJ cQ) (va_A [] sz) [] out) 0 0 (va_A [] sz) := by
  refine mm_of (own := "java/lang/String") (cc := b_String_coder) (maxL := 1) (ret := (some .byte)) (by decide) rfl rfl ?_
  intro p e s m below meth c hsz C0 hw hname
  generalize (va_A [] sz) = A at C0 hw ⊢
  have hl := lv_entry ([.ref (adK k)]) (n := 1) (Nat.le_of_ble_eq_true rfl)
  rw [lg_entry_eq]
  generalize (lg_sl ([.ref (adK k)]) ++ List.replicate (1 - (lg_sl ([.ref (adK k)])).length) Slot.unset).toArray = ls at hl ⊢
  have hl : lv_has ls 1 [(0, .ref (adK k))] := hl
  obtain ⟨hx, hb, hr, hml, hown, hts, hlocks, hK, hZ, hA⟩ := id C0
  generalize s.heap = H at hw ⊢
  unfold f_String_coder at hf
  refine va_gets hx hb (Zo.2 _ _ _ hZ).2.2.2.2.1 hw.2.2 hown (hts _ (List.mem_cons_of_mem _ q_319)) (fun _ h9 => h9) d_String_coder_0 ?_
  refine lv_if_eq (tgt := 13) hx hb d_String_coder_3 (by decide) (fun hc => ?_) (fun hc => ?_)
  · replace hf := mm_ip hc hf
    refine lv_iconst (v := (1 : Int32)) hx hb d_String_coder_13 (by decide) ?_
    obtain rfl := Option.some.inj hf
    exact mm_zret hx hb hr hlocks hK (by decide) (mm_wsub hw [] (by decide) rfl rfl) rfl d_String_coder_14
  · replace hf := mm_in hc hf
    refine lv_aload_n hx hb d_String_coder_6 rfl (lv_at hl 0 rfl) ?_
    refine vk_getf hx hb (((Zo.2 _ _ _ hZ).2.2.1).1 _ h_k_lt).2.1 hw.2.2 hown (hts _ (List.mem_cons_of_mem _ q_1057)) (fun _ h9 => h9) d_String_coder_7 ?_
    refine lv_goto (tgt := 14) hx hb d_String_coder_10 (by decide) ?_
    obtain rfl := Option.some.inj hf
    exact mm_zret hx hb hr hlocks hK (by decide) (mm_wsub hw [] (by decide) rfl rfl) rfl d_String_coder_14
/-! java/lang/String.isLatin1()Z -/
def f_String_isLatin1 : Option (Int32) := (if (1 : Int32) = 0 then some ((0 : Int32)) else (if (0 : Int32) = 0 then some ((1 : Int32)) else some ((0 : Int32))))
abbrev r_String_isLatin1 : Room := { frames := 0, cells := 0, slots := 0, locals := 0 }
set_option maxHeartbeats 4000000 in
set_option maxRecDepth 100000 in
theorem c_String_isLatin1 (l : Launch) {Z : (Nat → Prop) → State → Heap → Prop} {ad adK adV : Nat → Nat} (Zo : mm_Zx Z ad adK adV) (dC : Nat → ClassId) (dI : Nat → Nat → Nat) (cC cI cJ cQ : ClassId) (k : Nat) (h_k_lt : k < NK) (sz : Nat) (out : Int32) (hf : f_String_isLatin1  = some out) : Met l y_String_isLatin1 w_String_isLatin1 r_String_isLatin1 (mm_pre (dC, dI) vwC (tyl cC cI cJ cQ) Z [] sz [.ref (adK k)]) (mm_qi (dC, dI) vwC (tyl cC cI cJ cQ) (va_A [] sz) [] out) 0 0 (va_A [] sz) := by
  refine mm_of (own := "java/lang/String") (cc := b_String_isLatin1) (maxL := 1) (ret := (some .boolean)) (by decide) rfl rfl ?_
  intro p e s m below meth c hsz C0 hw hname
  generalize (va_A [] sz) = A at C0 hw ⊢
  have hl := lv_entry ([.ref (adK k)]) (n := 1) (Nat.le_of_ble_eq_true rfl)
  rw [lg_entry_eq]
  generalize (lg_sl ([.ref (adK k)]) ++ List.replicate (1 - (lg_sl ([.ref (adK k)])).length) Slot.unset).toArray = ls at hl ⊢
  have hl : lv_has ls 1 [(0, .ref (adK k))] := hl
  obtain ⟨hx, hb, hr, hml, hown, hts, hlocks, hK, hZ, hA⟩ := id C0
  generalize s.heap = H at hw ⊢
  unfold f_String_isLatin1 at hf
  refine va_gets hx hb (Zo.2 _ _ _ hZ).2.2.2.2.1 hw.2.2 hown (hts _ (List.mem_cons_of_mem _ q_319)) (fun _ h9 => h9) d_String_isLatin1_0 ?_
  refine lv_if_eq (tgt := 17) hx hb d_String_isLatin1_3 (by decide) (fun hc => ?_) (fun hc => ?_)
  · replace hf := mm_ip hc hf
    refine lv_iconst (v := (0 : Int32)) hx hb d_String_isLatin1_17 (by decide) ?_
    obtain rfl := Option.some.inj hf
    exact mm_zret hx hb hr hlocks hK (by decide) (mm_wsub hw [] (by decide) rfl rfl) rfl d_String_isLatin1_18
  · replace hf := mm_in hc hf
    refine lv_aload_n hx hb d_String_isLatin1_6 rfl (lv_at hl 0 rfl) ?_
    refine vk_getf hx hb (((Zo.2 _ _ _ hZ).2.2.1).1 _ h_k_lt).2.1 hw.2.2 hown (hts _ (List.mem_cons_of_mem _ q_1057)) (fun _ h9 => h9) d_String_isLatin1_7 ?_
    refine lv_if_ne (tgt := 17) hx hb d_String_isLatin1_10 (by decide) (fun hc => ?_) (fun hc => ?_)
    · replace hf := mm_in hc hf
      refine lv_iconst (v := (0 : Int32)) hx hb d_String_isLatin1_17 (by decide) ?_
      obtain rfl := Option.some.inj hf
      exact mm_zret hx hb hr hlocks hK (by decide) (mm_wsub hw [] (by decide) rfl rfl) rfl d_String_isLatin1_18
    · replace hf := mm_ip hc hf
      refine lv_iconst (v := (1 : Int32)) hx hb d_String_isLatin1_13 (by decide) ?_
      refine lv_goto (tgt := 18) hx hb d_String_isLatin1_14 (by decide) ?_
      obtain rfl := Option.some.inj hf
      exact mm_zret hx hb hr hlocks hK (by decide) (mm_wsub hw [] (by decide) rfl rfl) rfl d_String_isLatin1_18
/-! java/lang/String.length()I -/
def f_String_length (k : Nat) : Option (Int32) := mm_b1 f_String_coder (fun r_1 => some ((nI (kLen k)) >>> (r_1 &&& 31)))
abbrev r_String_length : Room := { frames := 1, cells := 0, slots := 0, locals := 20 }
set_option maxHeartbeats 4000000 in
set_option maxRecDepth 100000 in
theorem c_String_length (l : Launch) {Z : (Nat → Prop) → State → Heap → Prop} {ad adK adV : Nat → Nat} (Zo : mm_Zx Z ad adK adV) (dC : Nat → ClassId) (dI : Nat → Nat → Nat) (cC cI cJ cQ : ClassId) (k : Nat) (h_k_lt : k < NK) (sz : Nat) (out : Int32) (hf : f_String_length k = some out) : Met l y_String_length w_String_length r_String_length (mm_pre (dC, dI) vwC (tyl cC cI cJ cQ) Z [] sz [.ref (adK k)]) (mm_qi (dC, dI) vwC (tyl cC cI cJ cQ) (va_A [] sz) [] out) 0 0 (va_A [] sz) := by
  refine mm_of (own := "java/lang/String") (cc := b_String_length) (maxL := 1) (ret := (some .int)) (by decide) rfl rfl ?_
  intro p e s m below meth c hsz C0 hw hname
  generalize (va_A [] sz) = A at C0 hw ⊢
  have hl := lv_entry ([.ref (adK k)]) (n := 1) (Nat.le_of_ble_eq_true rfl)
  rw [lg_entry_eq]
  generalize (lg_sl ([.ref (adK k)]) ++ List.replicate (1 - (lg_sl ([.ref (adK k)])).length) Slot.unset).toArray = ls at hl ⊢
  have hl : lv_has ls 1 [(0, .ref (adK k))] := hl
  obtain ⟨hx, hb, hr, hml, hown, hts, hlocks, hK, hZ, hA⟩ := id C0
  generalize s.heap = H at hw ⊢
  unfold f_String_length at hf
  refine lv_aload_n hx hb d_String_length_0 rfl (lv_at hl 0 rfl) ?_
  refine vk_getf hx hb (((Zo.2 _ _ _ hZ).2.2.1).1 _ h_k_lt).2.2.1 hw.2.2 hown (hts _ (List.mem_cons_of_mem _ q_1058)) (fun _ h9 => h9) d_String_length_1 ?_
  refine va_tlen hx hb (((Zo.2 _ _ _ hZ).2.2.1).1 _ h_k_lt).2.2.2 hw.2.2 (v := nI (kLen k)) rfl d_String_length_4 ?_
  refine lv_aload_n hx hb d_String_length_5 rfl (lv_at hl 0 rfl) ?_
  obtain ⟨r_1, hu, hf⟩ := mm_b1_ok hf
  refine mm_ci (wr := []) (va_runV (As := []) (rest := [.int (nI (kLen k))]) ⟨hx, hb, hml, hown, hts⟩ (c_String_coder l Zo dC dI cC cI cJ cQ k h_k_lt  H.size r_1 hu) (cwV 0 hts (mm_gV q_325 q_326 q_327 q_69 q_328) rfl rfl rfl (by decide +kernel) ⟨Nat.le_of_ble_eq_true rfl, Nat.le_of_ble_eq_true rfl⟩) (mm_pvR Zo.1 hK hw hZ hA [] (by decide) rfl rfl (vk_recv ((Zo.2 _ _ _ hZ).2.2.1) h_k_lt hw.2.2)) rfl rfl hl.1 rfl (lv_room (Nat.le_of_ble_eq_true rfl)) d_String_length_6 ⟨Nat.le_refl _, Nat.le_refl _⟩) hw hA [] [] rfl rfl (by decide) (by decide) (fun H locs hw => ?_)
  have hw : mm_w (dC, dI) vwC A s [] H locs := hw
  refine lv_ishr hx hb d_String_length_9 ?_
  obtain rfl := Option.some.inj hf
  exact mm_iret hx hb hr hlocks hK (mm_wsub hw [] (by decide) rfl rfl) rfl d_String_length_10
/-! jdk/internal/util/Preconditions.checkIndex(IILjava/util/function/BiFunction;)I -/
def f_Precond_checkIndex (i : Int32) (n : Int32) : Option (Int32) := (if i < 0 then none else (if i < n then some (i) else none))
abbrev r_Precond_checkIndex : Room := { frames := 0, cells := 0, slots := 0, locals := 0 }
set_option maxHeartbeats 4000000 in
set_option maxRecDepth 100000 in
theorem c_Precond_checkIndex (l : Launch) {Z : (Nat → Prop) → State → Heap → Prop} {ad adK adV : Nat → Nat} (Zo : mm_Zx Z ad adK adV) (dC : Nat → ClassId) (dI : Nat → Nat → Nat) (cC cI cJ cQ : ClassId) (i : Int32) (n : Int32) (sz : Nat) (out : Int32) (hf : f_Precond_checkIndex i n = some out) : Met l y_Precond_checkIndex w_Precond_checkIndex r_Precond_checkIndex (mm_pre (dC, dI) vwC (tyl cC cI cJ cQ) Z [] sz [.int i, .int n, .null]) (mm_qi (dC, dI) vwC (tyl cC cI cJ cQ) (va_A [] sz) [] out) 0 0 (va_A [] sz) := by
  refine mm_of (own := "jdk/internal/util/Preconditions") (cc := b_Precond_checkIndex) (maxL := 3) (ret := (some .int)) (by decide) rfl rfl ?_
  intro p e s m below meth c hsz C0 hw hname
  generalize (va_A [] sz) = A at C0 hw ⊢
  have hl := lv_entry ([.int i, .int n, .null]) (n := 3) (Nat.le_of_ble_eq_true rfl)
  rw [lg_entry_eq]
  generalize (lg_sl ([.int i, .int n, .null]) ++ List.replicate (3 - (lg_sl ([.int i, .int n, .null])).length) Slot.unset).toArray = ls at hl ⊢
  have hl : lv_has ls 3 [(0, .int i), (1, .int n), (2, .null)] := hl
  obtain ⟨hx, hb, hr, hml, hown, hts, hlocks, hK, hZ, hA⟩ := id C0
  generalize s.heap = H at hw ⊢
  unfold f_Precond_checkIndex at hf
  refine lv_iload_n hx hb d_Precond_checkIndex_0 rfl (lv_at hl 0 rfl) ?_
  refine lv_if_lt (tgt := 9) hx hb d_Precond_checkIndex_1 (by decide) (fun hc => ?_) (fun hc => ?_)
  · replace hf := mm_ip hc hf
    cases hf
  · replace hf := mm_in hc hf
    refine lv_iload_n hx hb d_Precond_checkIndex_4 rfl (lv_at hl 0 rfl) ?_
    refine lv_iload_n hx hb d_Precond_checkIndex_5 rfl (lv_at hl 1 rfl) ?_
    refine lv_icmp_lt (tgt := 16) hx hb d_Precond_checkIndex_6 (by decide) (fun hc => ?_) (fun hc => ?_)
    · replace hf := mm_ip hc hf
      refine lv_iload_n hx hb d_Precond_checkIndex_16 rfl (lv_at hl 0 rfl) ?_
      obtain rfl := Option.some.inj hf
      exact mm_iret hx hb hr hlocks hK (mm_wsub hw [] (by decide) rfl rfl) rfl d_Precond_checkIndex_17
    · replace hf := mm_in hc hf
      cases hf
/-! jdk/internal/util/Preconditions.checkIndex(IILjava/util/function/BiFunction;)I -/
abbrev r_Precond_checkIndex_R : Room := { frames := 0, cells := 0, slots := 0, locals := 0 }
set_option maxHeartbeats 4000000 in
set_option maxRecDepth 100000 in
theorem c_Precond_checkIndex_R (l : Launch) {Z : (Nat → Prop) → State → Heap → Prop} {ad adK adV : Nat → Nat} (Zo : mm_Zx Z ad adK adV) (dC : Nat → ClassId) (dI : Nat → Nat → Nat) (cC cI cJ cQ : ClassId) (i : Int32) (n : Int32) (h_fo : Nat) (sz : Nat) (out : Int32) (hf : f_Precond_checkIndex i n = some out) : Met l y_Precond_checkIndex w_Precond_checkIndex r_Precond_checkIndex_R (mm_pre (dC, dI) vwC (tyl cC cI cJ cQ) Z [] sz [.int i, .int n, .ref h_fo]) (mm_qi (dC, dI) vwC (tyl cC cI cJ cQ) (va_A [] sz) [] out) 0 0 (va_A [] sz) := by
  refine mm_of (own := "jdk/internal/util/Preconditions") (cc := b_Precond_checkIndex) (maxL := 3) (ret := (some .int)) (by decide) rfl rfl ?_
  intro p e s m below meth c hsz C0 hw hname
  generalize (va_A [] sz) = A at C0 hw ⊢
  have hl := lv_entry ([.int i, .int n, .ref h_fo]) (n := 3) (Nat.le_of_ble_eq_true rfl)
  rw [lg_entry_eq]
  generalize (lg_sl ([.int i, .int n, .ref h_fo]) ++ List.replicate (3 - (lg_sl ([.int i, .int n, .ref h_fo])).length) Slot.unset).toArray = ls at hl ⊢
  have hl : lv_has ls 3 [(0, .int i), (1, .int n), (2, .ref h_fo)] := hl
  obtain ⟨hx, hb, hr, hml, hown, hts, hlocks, hK, hZ, hA⟩ := id C0
  generalize s.heap = H at hw ⊢
  unfold f_Precond_checkIndex at hf
  refine lv_iload_n hx hb d_Precond_checkIndex_0 rfl (lv_at hl 0 rfl) ?_
  refine lv_if_lt (tgt := 9) hx hb d_Precond_checkIndex_1 (by decide) (fun hc => ?_) (fun hc => ?_)
  · replace hf := mm_ip hc hf
    cases hf
  · replace hf := mm_in hc hf
    refine lv_iload_n hx hb d_Precond_checkIndex_4 rfl (lv_at hl 0 rfl) ?_
    refine lv_iload_n hx hb d_Precond_checkIndex_5 rfl (lv_at hl 1 rfl) ?_
    refine lv_icmp_lt (tgt := 16) hx hb d_Precond_checkIndex_6 (by decide) (fun hc => ?_) (fun hc => ?_)
    · replace hf := mm_ip hc hf
      refine lv_iload_n hx hb d_Precond_checkIndex_16 rfl (lv_at hl 0 rfl) ?_
      obtain rfl := Option.some.inj hf
      exact mm_iret hx hb hr hlocks hK (mm_wsub hw [] (by decide) rfl rfl) rfl d_Precond_checkIndex_17
    · replace hf := mm_in hc hf
      cases hf
/-! java/lang/String.checkIndex(II)V -/
def f_String_checkIndex (i : Int32) (n : Int32) : Option (Unit) := mm_b1 (f_Precond_checkIndex i n) (fun r_1 => some ())
abbrev r_String_checkIndex : Room := { frames := 1, cells := 0, slots := 0, locals := 22 }
set_option maxHeartbeats 4000000 in
set_option maxRecDepth 100000 in
theorem c_String_checkIndex (l : Launch) {Z : (Nat → Prop) → State → Heap → Prop} {ad adK adV : Nat → Nat} (Zo : mm_Zx Z ad adK adV) (dC : Nat → ClassId) (dI : Nat → Nat → Nat) (cC cI cJ cQ : ClassId) (i : Int32) (n : Int32) (sz : Nat) (out : Unit) (hf : f_String_checkIndex i n = some out) : Met l y_String_checkIndex w_String_checkIndex r_String_checkIndex (mm_pre (dC, dI) vwC (tyl cC cI cJ cQ) Z [] sz [.int i, .int n]) (mm_qv (dC, dI) vwC (tyl cC cI cJ cQ) (va_A [] sz) []) 0 0 (va_A [] sz) := by
  refine mm_of (own := "java/lang/String") (cc := b_String_checkIndex) (maxL := 2) (ret := none) (by decide) rfl rfl ?_
  intro p e s m below meth c hsz C0 hw hname
  generalize (va_A [] sz) = A at C0 hw ⊢
  have hl := lv_entry ([.int i, .int n]) (n := 2) (Nat.le_of_ble_eq_true rfl)
  rw [lg_entry_eq]
  generalize (lg_sl ([.int i, .int n]) ++ List.replicate (2 - (lg_sl ([.int i, .int n])).length) Slot.unset).toArray = ls at hl ⊢
  have hl : lv_has ls 2 [(0, .int i), (1, .int n)] := hl
  obtain ⟨hx, hb, hr, hml, hown, hts, hlocks, hK, hZ, hA⟩ := id C0
  generalize s.heap = H at hw ⊢
  unfold f_String_checkIndex at hf
  refine lv_iload_n hx hb d_String_checkIndex_0 rfl (lv_at hl 0 rfl) ?_
  refine lv_iload_n hx hb d_String_checkIndex_1 rfl (lv_at hl 1 rfl) ?_
  rcases (Zo.2 _ _ _ hZ).2.2.2.2.2 with hq | ⟨t0, hq⟩
  · refine va_gets hx hb hq hw.2.2 hown (hts _ (List.mem_cons_of_mem _ q_358)) (fun _ h9 => h9) d_String_checkIndex_2 ?_
    obtain ⟨r_1, hu, hf⟩ := mm_b1_ok hf
    refine mm_ci (wr := []) (va_runS (As := [.int i, .int n, .null]) (rest := []) ⟨hx, hb, hml, hown, hts⟩ (c_Precond_checkIndex l Zo dC dI cC cI cJ cQ i n  H.size r_1 hu) (va_cwS 3 hts (mm_gS q_484 q_485 q_72 q_486) rfl rfl rfl (by decide +kernel) ⟨Nat.le_of_ble_eq_true rfl, Nat.le_of_ble_eq_true rfl⟩) (mm_ps Zo.1 hK hw hZ hA [] (by decide) rfl rfl) rfl rfl hl.1 rfl (lv_room (Nat.le_of_ble_eq_true rfl)) d_String_checkIndex_5 ⟨Nat.le_refl _, Nat.le_refl _⟩) hw hA [] [] rfl rfl (by decide) (by decide) (fun H locs hw => ?_)
    have hw : mm_w (dC, dI) vwC A s [] H locs := hw
    refine lv_pop hx hb d_String_checkIndex_8 rfl ?_
    obtain rfl := Option.some.inj hf
    exact mm_vret hx hb hr hlocks hK (mm_wsub hw [] (by decide) rfl rfl) d_String_checkIndex_9
  · refine va_gets hx hb hq hw.2.2 hown (hts _ (List.mem_cons_of_mem _ q_358)) (fun _ h9 => h9) d_String_checkIndex_2 ?_
    obtain ⟨r_2, hu, hf⟩ := mm_b1_ok hf
    refine mm_ci (wr := []) (va_runS (As := [.int i, .int n, .ref t0]) (rest := []) ⟨hx, hb, hml, hown, hts⟩ (c_Precond_checkIndex_R l Zo dC dI cC cI cJ cQ i n t0 H.size r_2 hu) (va_cwS 3 hts (mm_gS q_484 q_485 q_72 q_486) rfl rfl rfl (by decide +kernel) ⟨Nat.le_of_ble_eq_true rfl, Nat.le_of_ble_eq_true rfl⟩) (mm_ps Zo.1 hK hw hZ hA [] (by decide) rfl rfl) rfl rfl hl.1 rfl (lv_room (Nat.le_of_ble_eq_true rfl)) d_String_checkIndex_5 ⟨Nat.le_refl _, Nat.le_refl _⟩) hw hA [] [] rfl rfl (by decide) (by decide) (fun H locs hw => ?_)
    have hw : mm_w (dC, dI) vwC A s [] H locs := hw
    refine lv_pop hx hb d_String_checkIndex_8 rfl ?_
    obtain rfl := Option.some.inj hf
    exact mm_vret hx hb hr hlocks hK (mm_wsub hw [] (by decide) rfl rfl) d_String_checkIndex_9
/-! java/lang/StringLatin1.charAt([BI)C -/
def f_Latin_charAt (k : Nat) (i : Int32) : Option (Int32) := mm_b0 (f_String_checkIndex i (nI (kLen k))) ((if i < 0 ∨ kLen k ≤ i.toNatClampNeg then none else some (mm_c ((kByt k i.toNatClampNeg) &&& (255 : Int32)))))
abbrev r_Latin_charAt : Room := { frames := 2, cells := 0, slots := 0, locals := 43 }
set_option maxHeartbeats 4000000 in
set_option maxRecDepth 100000 in
theorem c_Latin_charAt (l : Launch) {Z : (Nat → Prop) → State → Heap → Prop} {ad adK adV : Nat → Nat} (Zo : mm_Zx Z ad adK adV) (dC : Nat → ClassId) (dI : Nat → Nat → Nat) (cC cI cJ cQ : ClassId) (k : Nat) (i : Int32) (h_k_lt : k < NK) (sz : Nat) (out : Int32) (hf : f_Latin_charAt k i = some out) : Met l y_Latin_charAt w_Latin_charAt r_Latin_charAt (mm_pre (dC, dI) vwC (tyl cC cI cJ cQ) Z [] sz [.ref (adV k), .int i]) (mm_qi (dC, dI) vwC (tyl cC cI cJ cQ) (va_A [] sz) [] out) 0 0 (va_A [] sz) := by
  refine mm_of (own := "java/lang/StringLatin1") (cc := b_Latin_charAt) (maxL := 2) (ret := (some .char)) (by decide) rfl rfl ?_
  intro p e s m below meth c hsz C0 hw hname
  generalize (va_A [] sz) = A at C0 hw ⊢
  have hl := lv_entry ([.ref (adV k), .int i]) (n := 2) (Nat.le_of_ble_eq_true rfl)
  rw [lg_entry_eq]
  generalize (lg_sl ([.ref (adV k), .int i]) ++ List.replicate (2 - (lg_sl ([.ref (adV k), .int i])).length) Slot.unset).toArray = ls at hl ⊢
  have hl : lv_has ls 2 [(0, .ref (adV k)), (1, .int i)] := hl
  obtain ⟨hx, hb, hr, hml, hown, hts, hlocks, hK, hZ, hA⟩ := id C0
  generalize s.heap = H at hw ⊢
  unfold f_Latin_charAt at hf
  refine lv_iload_n hx hb d_Latin_charAt_0 rfl (lv_at hl 1 rfl) ?_
  refine lv_aload_n hx hb d_Latin_charAt_1 rfl (lv_at hl 0 rfl) ?_
  refine va_tlen hx hb (((Zo.2 _ _ _ hZ).2.2.1).1 _ h_k_lt).2.2.2 hw.2.2 (v := nI (kLen k)) rfl d_Latin_charAt_2 ?_
  obtain ⟨hu, hf⟩ := mm_b0_ok hf
  refine mm_cv (wr := []) (va_runS (As := [.int i, .int (nI (kLen k))]) (rest := []) ⟨hx, hb, hml, hown, hts⟩ (c_String_checkIndex l Zo dC dI cC cI cJ cQ i (nI (kLen k))  H.size () hu) (va_cwS 2 hts (mm_gS q_481 q_482 q_69 q_483) rfl rfl rfl (by decide +kernel) ⟨Nat.le_of_ble_eq_true rfl, Nat.le_of_ble_eq_true rfl⟩) (mm_ps Zo.1 hK hw hZ hA [] (by decide) rfl rfl) rfl rfl hl.1 rfl (lv_room (Nat.le_of_ble_eq_true rfl)) d_Latin_charAt_3 ⟨Nat.le_refl _, Nat.le_refl _⟩) hw hA [] [] rfl rfl (by decide) (by decide) (fun H locs hw => ?_)
  have hw : mm_w (dC, dI) vwC A s [] H locs := hw
  refine lv_aload_n hx hb d_Latin_charAt_6 rfl (lv_at hl 0 rfl) ?_
  refine lv_iload_n hx hb d_Latin_charAt_7 rfl (lv_at hl 1 rfl) ?_
  obtain ⟨hz, hf⟩ := mm_grd hf
  refine va_tb hx hb (((Zo.2 _ _ _ hZ).2.2.1).1 _ h_k_lt).2.2.2 hw.2.2 hz (v := .int (kByt k i.toNatClampNeg)) rfl d_Latin_charAt_8 ?_
  refine lv_sipush (v := (255 : Int32)) hx hb d_Latin_charAt_9 (by decide) ?_
  refine lv_iand hx hb d_Latin_charAt_12 ?_
  refine lv_i2c (v := mm_c ((kByt k i.toNatClampNeg) &&& (255 : Int32))) hx hb d_Latin_charAt_13 rfl ?_
  obtain rfl := Option.some.inj hf
  exact mm_zret hx hb hr hlocks hK (pk_nc _) (mm_wsub hw [] (by decide) rfl rfl) rfl d_Latin_charAt_14
/-! java/lang/String.charAt(I)C -/
def f_String_charAt (k : Nat) (i : Int32) : Option (Int32) := mm_b1 f_String_isLatin1 (fun r_1 => (if r_1 = 0 then none else mm_b1 (f_Latin_charAt k i) (fun r_2 => (if mm_c r_2 = r_2 then some (r_2) else none))))
abbrev r_String_charAt : Room := { frames := 3, cells := 0, slots := 0, locals := 64 }
set_option maxHeartbeats 4000000 in
set_option maxRecDepth 100000 in
theorem c_String_charAt (l : Launch) {Z : (Nat → Prop) → State → Heap → Prop} {ad adK adV : Nat → Nat} (Zo : mm_Zx Z ad adK adV) (dC : Nat → ClassId) (dI : Nat → Nat → Nat) (cC cI cJ cQ : ClassId) (k : Nat) (i : Int32) (h_k_lt : k < NK) (sz : Nat) (out : Int32) (hf : f_String_charAt k i = some out) : Met l y_String_charAt w_String_charAt r_String_charAt (mm_pre (dC, dI) vwC (tyl cC cI cJ cQ) Z [] sz [.ref (adK k), .int i]) (mm_qi (dC, dI) vwC (tyl cC cI cJ cQ) (va_A [] sz) [] out) 0 0 (va_A [] sz) := by
  refine mm_of (own := "java/lang/String") (cc := b_String_charAt) (maxL := 2) (ret := (some .char)) (by decide) rfl rfl ?_
  intro p e s m below meth c hsz C0 hw hname
  generalize (va_A [] sz) = A at C0 hw ⊢
  have hl := lv_entry ([.ref (adK k), .int i]) (n := 2) (Nat.le_of_ble_eq_true rfl)
  rw [lg_entry_eq]
  generalize (lg_sl ([.ref (adK k), .int i]) ++ List.replicate (2 - (lg_sl ([.ref (adK k), .int i])).length) Slot.unset).toArray = ls at hl ⊢
  have hl : lv_has ls 2 [(0, .ref (adK k)), (1, .int i)] := hl
  obtain ⟨hx, hb, hr, hml, hown, hts, hlocks, hK, hZ, hA⟩ := id C0
  generalize s.heap = H at hw ⊢
  unfold f_String_charAt at hf
  refine lv_aload_n hx hb d_String_charAt_0 rfl (lv_at hl 0 rfl) ?_
  obtain ⟨r_1, hu, hf⟩ := mm_b1_ok hf
  refine mm_ci (wr := []) (va_runV (As := []) (rest := []) ⟨hx, hb, hml, hown, hts⟩ (c_String_isLatin1 l Zo dC dI cC cI cJ cQ k h_k_lt  H.size r_1 hu) (cwV 0 hts (mm_gV q_315 q_316 q_317 q_69 q_318) rfl rfl rfl (by decide +kernel) ⟨Nat.le_of_ble_eq_true rfl, Nat.le_of_ble_eq_true rfl⟩) (mm_pvR Zo.1 hK hw hZ hA [] (by decide) rfl rfl (vk_recv ((Zo.2 _ _ _ hZ).2.2.1) h_k_lt hw.2.2)) rfl rfl hl.1 rfl (lv_room (Nat.le_of_ble_eq_true rfl)) d_String_charAt_1 ⟨Nat.le_refl _, Nat.le_refl _⟩) hw hA [] [] rfl rfl (by decide) (by decide) (fun H locs hw => ?_)
  have hw : mm_w (dC, dI) vwC A s [] H locs := hw
  refine lv_if_eq (tgt := 16) hx hb d_String_charAt_4 (by decide) (fun hc => ?_) (fun hc => ?_)
  · replace hf := mm_ip hc hf
    cases hf
  · replace hf := mm_in hc hf
    refine lv_aload_n hx hb d_String_charAt_7 rfl (lv_at hl 0 rfl) ?_
    refine vk_getf hx hb (((Zo.2 _ _ _ hZ).2.2.1).1 _ h_k_lt).2.2.1 hw.2.2 hown (hts _ (List.mem_cons_of_mem _ q_1058)) (fun _ h9 => h9) d_String_charAt_8 ?_
    refine lv_iload_n hx hb d_String_charAt_11 rfl (lv_at hl 1 rfl) ?_
    obtain ⟨r_2, hu, hf⟩ := mm_b1_ok hf
    refine mm_ci (wr := []) (va_runS (As := [.ref (adV k), .int i]) (rest := []) ⟨hx, hb, hml, hown, hts⟩ (c_Latin_charAt l Zo dC dI cC cI cJ cQ k i h_k_lt  H.size r_2 hu) (va_cwS 2 hts (mm_gS q_478 q_479 q_70 q_480) rfl rfl rfl (by decide +kernel) ⟨Nat.le_of_ble_eq_true rfl, Nat.le_of_ble_eq_true rfl⟩) (mm_ps Zo.1 hK hw hZ hA [] (by decide) rfl rfl) rfl rfl hl.1 rfl (lv_room (Nat.le_of_ble_eq_true rfl)) d_String_charAt_12 ⟨Nat.le_refl _, Nat.le_refl _⟩) hw hA [] [] rfl rfl (by decide) (by decide) (fun H locs hw => ?_)
    have hw : mm_w (dC, dI) vwC A s [] H locs := hw
    obtain ⟨hz, hf⟩ := mm_ask hf
    obtain rfl := Option.some.inj hf
    exact mm_zret hx hb hr hlocks hK (mm_narC hz) (mm_wsub hw [] (by decide) rfl rfl) rfl d_String_charAt_15
/-! java/lang/StringLatin1.canEncode(I)Z -/
def f_Latin_canEncode_1 (ch : Int32) : Option (Int32) := (if ch < 0 then some ((0 : Int32)) else (if (255 : Int32) < ch then some ((0 : Int32)) else some ((1 : Int32))))
abbrev r_Latin_canEncode_1 : Room := { frames := 0, cells := 0, slots := 0, locals := 0 }
set_option maxHeartbeats 4000000 in
set_option maxRecDepth 100000 in
theorem c_Latin_canEncode_1 (l : Launch) {Z : (Nat → Prop) → State → Heap → Prop} {ad adK adV : Nat → Nat} (Zo : mm_Zx Z ad adK adV) (dC : Nat → ClassId) (dI : Nat → Nat → Nat) (cC cI cJ cQ : ClassId) (ch : Int32) (sz : Nat) (out : Int32) (hf : f_Latin_canEncode_1 ch = some out) : Met l y_Latin_canEncode_1 w_Latin_canEncode_1 r_Latin_canEncode_1 (mm_pre (dC, dI) vwC (tyl cC cI cJ cQ) Z [] sz [.int ch]) (mm_qi (dC, dI) vwC (tyl cC cI cJ cQ) (va_A [] sz) [] out) 0 0 (va_A [] sz) := by
  refine mm_of (own := "java/lang/StringLatin1") (cc := b_Latin_canEncode_1) (maxL := 1) (ret := (some .boolean)) (by decide) rfl rfl ?_
  intro p e s m below meth c hsz C0 hw hname
  generalize (va_A [] sz) = A at C0 hw ⊢
  have hl := lv_entry ([.int ch]) (n := 1) (Nat.le_of_ble_eq_true rfl)
  rw [lg_entry_eq]
  generalize (lg_sl ([.int ch]) ++ List.replicate (1 - (lg_sl ([.int ch])).length) Slot.unset).toArray = ls at hl ⊢
  have hl : lv_has ls 1 [(0, .int ch)] := hl
  obtain ⟨hx, hb, hr, hml, hown, hts, hlocks, hK, hZ, hA⟩ := id C0
  generalize s.heap = H at hw ⊢
  unfold f_Latin_canEncode_1 at hf
  refine lv_iload_n hx hb d_Latin_canEncode_1_0 rfl (lv_at hl 0 rfl) ?_
  refine lv_if_lt (tgt := 15) hx hb d_Latin_canEncode_1_1 (by decide) (fun hc => ?_) (fun hc => ?_)
  · replace hf := mm_ip hc hf
    refine lv_iconst (v := (0 : Int32)) hx hb d_Latin_canEncode_1_15 (by decide) ?_
    obtain rfl := Option.some.inj hf
    exact mm_zret hx hb hr hlocks hK (by decide) (mm_wsub hw [] (by decide) rfl rfl) rfl d_Latin_canEncode_1_16
  · replace hf := mm_in hc hf
    refine lv_iload_n hx hb d_Latin_canEncode_1_4 rfl (lv_at hl 0 rfl) ?_
    refine lv_sipush (v := (255 : Int32)) hx hb d_Latin_canEncode_1_5 (by decide) ?_
    refine lv_icmp_gt (tgt := 15) hx hb d_Latin_canEncode_1_8 (by decide) (fun hc => ?_) (fun hc => ?_)
    · replace hf := mm_ip hc hf
      refine lv_iconst (v := (0 : Int32)) hx hb d_Latin_canEncode_1_15 (by decide) ?_
      obtain rfl := Option.some.inj hf
      exact mm_zret hx hb hr hlocks hK (by decide) (mm_wsub hw [] (by decide) rfl rfl) rfl d_Latin_canEncode_1_16
    · replace hf := mm_in hc hf
      refine lv_iconst (v := (1 : Int32)) hx hb d_Latin_canEncode_1_11 (by decide) ?_
      refine lv_goto (tgt := 16) hx hb d_Latin_canEncode_1_12 (by decide) ?_
      obtain rfl := Option.some.inj hf
      exact mm_zret hx hb hr hlocks hK (by decide) (mm_wsub hw [] (by decide) rfl rfl) rfl d_Latin_canEncode_1_16
/-! java/lang/StringLatin1.indexOfChar([BIII)I -/
def f_Latin_indexOfChar_7 (k : Nat) (b : Int32) : Nat → Int32 → Int32 → Option (Int32)
  | 0, _, _ => none
  | fu + 1, x4, x5 => (if b ≤ x5 then some ((-1 : Int32)) else (if x5 < 0 ∨ kLen k ≤ x5.toNatClampNeg then none else (if (kByt k x5.toNatClampNeg) = x4 then some (x5) else f_Latin_indexOfChar_7 k b fu x4 (x5 + (1 : Int32)))))
def f_Latin_indexOfChar (N : Nat) (k : Nat) (ch : Int32) (a : Int32) (b : Int32) : Option (Int32) := f_Latin_indexOfChar_7 k b N ch.toInt8.toInt32 a
abbrev r_Latin_indexOfChar : Room := { frames := 0, cells := 0, slots := 0, locals := 0 }
set_option maxHeartbeats 4000000 in
set_option maxRecDepth 100000 in
theorem b_Latin_indexOfChar_7 (Zo : mm_Zx Z ad adK adV) (C0 : mm_cx (dC, dI) vwC (tyl cC cI cJ cQ) Z p s m args meth c b_Latin_indexOfChar 6 (some .int) "java/lang/StringLatin1" w_Latin_indexOfChar A) (N : Nat) (k : Nat) (ch : Int32) (a : Int32) (b : Int32) (h_k_lt : k < NK) (out : Int32) : ∀ (fuel : Nat) (x4 : Int32) (x5 : Int32), f_Latin_indexOfChar_7 k b fuel x4 x5 = some out → ∀ (H : Heap) (locs : List Loc), mm_w (dC, dI) vwC A s [] H locs → ∀ (ls : Array Slot), lv_has ls 6 [(0, .ref (adV k)), (3, .int b), (4, .int x4), (5, .int x5)] → W p l e r_Latin_indexOfChar s m args below meth c H locs 0 0 (MQ below (mm_qi (dC, dI) vwC (tyl cC cI cJ cQ) A [] out) args s 0 0 A) (F0 m 7 ls []) := by
  obtain ⟨hx, hb, hr, hml, hown, hts, hlocks, hK, hZ, hA⟩ := id C0
  intro fuel
  induction fuel with
  | zero =>
    intro x4 x5 hf
    cases (show (none : Option (Int32)) = some out from hf)
  | succ fu ih =>
    intro x4 x5 hf H locs hw ls hl
    unfold f_Latin_indexOfChar_7 at hf
    refine lv_iload hx hb d_Latin_indexOfChar_7 (lv_at hl 3 rfl) ?_
    refine lv_iload_n hx hb d_Latin_indexOfChar_9 rfl (lv_at hl 1 rfl) ?_
    refine lv_icmp_ge (tgt := 31) hx hb d_Latin_indexOfChar_10 (by decide) (fun hc => ?_) (fun hc => ?_)
    · replace hf := mm_ip hc hf
      refine lv_iconst (v := (-1 : Int32)) hx hb d_Latin_indexOfChar_31 (by decide) ?_
      obtain rfl := Option.some.inj hf
      exact mm_iret hx hb hr hlocks hK (mm_wsub hw [] (by decide) rfl rfl) rfl d_Latin_indexOfChar_32
    · replace hf := mm_in hc hf
      refine lv_aload_n hx hb d_Latin_indexOfChar_13 rfl (lv_at hl 0 rfl) ?_
      refine lv_iload hx hb d_Latin_indexOfChar_14 (lv_at hl 3 rfl) ?_
      obtain ⟨hz, hf⟩ := mm_grd hf
      refine va_tb hx hb (((Zo.2 _ _ _ hZ).2.2.1).1 _ h_k_lt).2.2.2 hw.2.2 hz (v := .int (kByt k x5.toNatClampNeg)) rfl d_Latin_indexOfChar_16 ?_
      refine lv_iload hx hb d_Latin_indexOfChar_17 (lv_at hl 2 rfl) ?_
      refine lv_icmp_ne (tgt := 25) hx hb d_Latin_indexOfChar_19 (by decide) (fun hc => ?_) (fun hc => ?_)
      · replace hf := mm_in hc hf
        refine lv_iinc (v := x5 + (1 : Int32)) (lv' := [(5, .int (x5 + (1 : Int32))), (0, .ref (adV k)), (3, .int b), (4, .int x4)]) hx hb d_Latin_indexOfChar_25 hl (k := 3) rfl rfl (by decide) rfl (fun ls hl => ?_)
        refine lv_goto (tgt := 7) hx hb d_Latin_indexOfChar_28 (by decide) ?_
        exact ih x4 (x5 + (1 : Int32)) hf _ _ hw _ (lv_sub hl [1, 2, 3, 0] rfl)
      · replace hf := mm_ip hc hf
        refine lv_iload hx hb d_Latin_indexOfChar_22 (lv_at hl 3 rfl) ?_
        obtain rfl := Option.some.inj hf
        exact mm_iret hx hb hr hlocks hK (mm_wsub hw [] (by decide) rfl rfl) rfl d_Latin_indexOfChar_24
set_option maxHeartbeats 4000000 in
set_option maxRecDepth 100000 in
theorem c_Latin_indexOfChar (l : Launch) {Z : (Nat → Prop) → State → Heap → Prop} {ad adK adV : Nat → Nat} (Zo : mm_Zx Z ad adK adV) (dC : Nat → ClassId) (dI : Nat → Nat → Nat) (cC cI cJ cQ : ClassId) (N : Nat) (k : Nat) (ch : Int32) (a : Int32) (b : Int32) (h_k_lt : k < NK) (sz : Nat) (out : Int32) (hf : f_Latin_indexOfChar N k ch a b = some out) : Met l y_Latin_indexOfChar w_Latin_indexOfChar r_Latin_indexOfChar (mm_pre (dC, dI) vwC (tyl cC cI cJ cQ) Z [] sz [.ref (adV k), .int ch, .int a, .int b]) (mm_qi (dC, dI) vwC (tyl cC cI cJ cQ) (va_A [] sz) [] out) 0 0 (va_A [] sz) := by
  refine mm_of (own := "java/lang/StringLatin1") (cc := b_Latin_indexOfChar) (maxL := 6) (ret := (some .int)) (by decide) rfl rfl ?_
  intro p e s m below meth c hsz C0 hw hname
  generalize (va_A [] sz) = A at C0 hw ⊢
  have hl := lv_entry ([.ref (adV k), .int ch, .int a, .int b]) (n := 6) (Nat.le_of_ble_eq_true rfl)
  rw [lg_entry_eq]
  generalize (lg_sl ([.ref (adV k), .int ch, .int a, .int b]) ++ List.replicate (6 - (lg_sl ([.ref (adV k), .int ch, .int a, .int b])).length) Slot.unset).toArray = ls at hl ⊢
  have hl : lv_has ls 6 [(0, .ref (adV k)), (1, .int ch), (2, .int a), (3, .int b)] := hl
  obtain ⟨hx, hb, hr, hml, hown, hts, hlocks, hK, hZ, hA⟩ := id C0
  generalize s.heap = H at hw ⊢
  unfold f_Latin_indexOfChar at hf
  refine lv_iload_n hx hb d_Latin_indexOfChar_0 rfl (lv_at hl 1 rfl) ?_
  refine lv_i2b (v := ch.toInt8.toInt32) hx hb d_Latin_indexOfChar_1 rfl ?_
  refine lv_istore (lv' := [(4, .int ch.toInt8.toInt32), (0, .ref (adV k)), (1, .int ch), (2, .int a), (3, .int b)]) hx hb d_Latin_indexOfChar_2 hl (by decide) rfl (fun ls hl => ?_)
  refine lv_iload_n hx hb d_Latin_indexOfChar_4 rfl (lv_at hl 3 rfl) ?_
  refine lv_istore (lv' := [(5, .int a), (4, .int ch.toInt8.toInt32), (0, .ref (adV k)), (1, .int ch), (2, .int a), (3, .int b)]) hx hb d_Latin_indexOfChar_5 hl (by decide) rfl (fun ls hl => ?_)
  exact b_Latin_indexOfChar_7 Zo C0 N k ch a b h_k_lt out N ch.toInt8.toInt32 a hf _ _ hw _ (lv_sub hl [2, 5, 1, 0] rfl)
/-! java/lang/StringLatin1.indexOf([BIII)I -/
def f_Latin_indexOf (N : Nat) (k : Nat) (ch : Int32) (a : Int32) (b : Int32) : Option (Int32) := mm_b1 (f_Latin_canEncode_1 ch) (fun r_1 => (if r_1 = 0 then some ((-1 : Int32)) else (if (if a < (0 : Int32) then (0 : Int32) else a) < (if (nI (kLen k)) < b then (nI (kLen k)) else b) then mm_b1 (f_Latin_indexOfChar N k ch (if a < (0 : Int32) then (0 : Int32) else a) (if (nI (kLen k)) < b then (nI (kLen k)) else b)) (fun r_2 => some (r_2)) else some ((-1 : Int32)))))
abbrev r_Latin_indexOf : Room := { frames := 1, cells := 0, slots := 0, locals := 25 }
set_option maxHeartbeats 4000000 in
set_option maxRecDepth 100000 in
theorem c_Latin_indexOf (l : Launch) {Z : (Nat → Prop) → State → Heap → Prop} {ad adK adV : Nat → Nat} (Zo : mm_Zx Z ad adK adV) (dC : Nat → ClassId) (dI : Nat → Nat → Nat) (cC cI cJ cQ : ClassId) (N : Nat) (k : Nat) (ch : Int32) (a : Int32) (b : Int32) (h_k_lt : k < NK) (sz : Nat) (out : Int32) (hf : f_Latin_indexOf N k ch a b = some out) : Met l y_Latin_indexOf w_Latin_indexOf r_Latin_indexOf (mm_pre (dC, dI) vwC (tyl cC cI cJ cQ) Z [] sz [.ref (adV k), .int ch, .int a, .int b]) (mm_qi (dC, dI) vwC (tyl cC cI cJ cQ) (va_A [] sz) [] out) 0 0 (va_A [] sz) := by
  refine mm_of (own := "java/lang/StringLatin1") (cc := b_Latin_indexOf) (maxL := 4) (ret := (some .int)) (by decide) rfl rfl ?_
  intro p e s m below meth c hsz C0 hw hname
  generalize (va_A [] sz) = A at C0 hw ⊢
  have hl := lv_entry ([.ref (adV k), .int ch, .int a, .int b]) (n := 4) (Nat.le_of_ble_eq_true rfl)
  rw [lg_entry_eq]
  generalize (lg_sl ([.ref (adV k), .int ch, .int a, .int b]) ++ List.replicate (4 - (lg_sl ([.ref (adV k), .int ch, .int a, .int b])).length) Slot.unset).toArray = ls at hl ⊢
  have hl : lv_has ls 4 [(0, .ref (adV k)), (1, .int ch), (2, .int a), (3, .int b)] := hl
  obtain ⟨hx, hb, hr, hml, hown, hts, hlocks, hK, hZ, hA⟩ := id C0
  generalize s.heap = H at hw ⊢
  unfold f_Latin_indexOf at hf
  refine lv_iload_n hx hb d_Latin_indexOf_0 rfl (lv_at hl 1 rfl) ?_
  obtain ⟨r_1, hu, hf⟩ := mm_b1_ok hf
  refine mm_ci (wr := []) (va_runS (As := [.int ch]) (rest := []) ⟨hx, hb, hml, hown, hts⟩ (c_Latin_canEncode_1 l Zo dC dI cC cI cJ cQ ch  H.size r_1 hu) (va_cwS 1 hts (mm_gS q_332 q_333 q_70 q_334) rfl rfl rfl (by decide +kernel) ⟨Nat.le_of_ble_eq_true rfl, Nat.le_of_ble_eq_true rfl⟩) (mm_ps Zo.1 hK hw hZ hA [] (by decide) rfl rfl) rfl rfl hl.1 rfl (lv_room (Nat.le_of_ble_eq_true rfl)) d_Latin_indexOf_1 ⟨Nat.le_refl _, Nat.le_refl _⟩) hw hA [] [] rfl rfl (by decide) (by decide) (fun H locs hw => ?_)
  have hw : mm_w (dC, dI) vwC A s [] H locs := hw
  refine lv_if_ne (tgt := 9) hx hb d_Latin_indexOf_4 (by decide) (fun hc => ?_) (fun hc => ?_)
  · replace hf := mm_in hc hf
    refine lv_iload_n hx hb d_Latin_indexOf_9 rfl (lv_at hl 2 rfl) ?_
    refine lv_iconst (v := (0 : Int32)) hx hb d_Latin_indexOf_10 (by decide) ?_
    refine va_mmax hx hb (hml.trans hl.1.symm) hown (hts _ (List.mem_cons_of_mem _ q_335)) (hts _ (List.mem_cons_of_mem _ q_89)) (hts _ (List.mem_cons_of_mem _ q_56)) (hts _ (List.mem_cons_of_mem _ q_90)) (Nat.le_of_ble_eq_true rfl) (Nat.le_of_ble_eq_true rfl) (Nat.zero_le _) (Nat.zero_le _) d_Latin_indexOf_11 ?_
    refine lv_istore_n (lv' := [(2, .int (if a < (0 : Int32) then (0 : Int32) else a)), (0, .ref (adV k)), (1, .int ch), (3, .int b)]) hx hb d_Latin_indexOf_14 rfl hl (by decide) rfl (fun ls hl => ?_)
    refine lv_iload_n hx hb d_Latin_indexOf_15 rfl (lv_at hl 3 rfl) ?_
    refine lv_aload_n hx hb d_Latin_indexOf_16 rfl (lv_at hl 1 rfl) ?_
    refine va_tlen hx hb (((Zo.2 _ _ _ hZ).2.2.1).1 _ h_k_lt).2.2.2 hw.2.2 (v := nI (kLen k)) rfl d_Latin_indexOf_17 ?_
    refine va_mmin hx hb (hml.trans hl.1.symm) hown (hts _ (List.mem_cons_of_mem _ q_336)) (hts _ (List.mem_cons_of_mem _ q_300)) (hts _ (List.mem_cons_of_mem _ q_56)) (hts _ (List.mem_cons_of_mem _ q_301)) (Nat.le_of_ble_eq_true rfl) (Nat.le_of_ble_eq_true rfl) (Nat.zero_le _) (Nat.zero_le _) d_Latin_indexOf_18 ?_
    refine lv_istore_n (lv' := [(3, .int (if (nI (kLen k)) < b then (nI (kLen k)) else b)), (2, .int (if a < (0 : Int32) then (0 : Int32) else a)), (0, .ref (adV k)), (1, .int ch)]) hx hb d_Latin_indexOf_21 rfl hl (by decide) rfl (fun ls hl => ?_)
    refine lv_iload_n hx hb d_Latin_indexOf_22 rfl (lv_at hl 1 rfl) ?_
    refine lv_iload_n hx hb d_Latin_indexOf_23 rfl (lv_at hl 0 rfl) ?_
    refine lv_icmp_lt (tgt := 29) hx hb d_Latin_indexOf_24 (by decide) (fun hc => ?_) (fun hc => ?_)
    · replace hf := mm_ip hc hf
      refine lv_aload_n hx hb d_Latin_indexOf_29 rfl (lv_at hl 2 rfl) ?_
      refine lv_iload_n hx hb d_Latin_indexOf_30 rfl (lv_at hl 3 rfl) ?_
      refine lv_iload_n hx hb d_Latin_indexOf_31 rfl (lv_at hl 1 rfl) ?_
      refine lv_iload_n hx hb d_Latin_indexOf_32 rfl (lv_at hl 0 rfl) ?_
      obtain ⟨r_2, hu, hf⟩ := mm_b1_ok hf
      refine mm_ci (wr := []) (va_runS (As := [.ref (adV k), .int ch, .int (if a < (0 : Int32) then (0 : Int32) else a), .int (if (nI (kLen k)) < b then (nI (kLen k)) else b)]) (rest := []) ⟨hx, hb, hml, hown, hts⟩ (c_Latin_indexOfChar l Zo dC dI cC cI cJ cQ N k ch (if a < (0 : Int32) then (0 : Int32) else a) (if (nI (kLen k)) < b then (nI (kLen k)) else b) h_k_lt  H.size r_2 hu) (va_cwS 4 hts (mm_gS q_337 q_338 q_70 q_339) rfl rfl rfl (by decide +kernel) ⟨Nat.le_of_ble_eq_true rfl, Nat.le_of_ble_eq_true rfl⟩) (mm_ps Zo.1 hK hw hZ hA [] (by decide) rfl rfl) rfl rfl hl.1 rfl (lv_room (Nat.le_of_ble_eq_true rfl)) d_Latin_indexOf_33 ⟨Nat.le_refl _, Nat.le_refl _⟩) hw hA [] [] rfl rfl (by decide) (by decide) (fun H locs hw => ?_)
      have hw : mm_w (dC, dI) vwC A s [] H locs := hw
      obtain rfl := Option.some.inj hf
      exact mm_iret hx hb hr hlocks hK (mm_wsub hw [] (by decide) rfl rfl) rfl d_Latin_indexOf_36
    · replace hf := mm_in hc hf
      refine lv_iconst (v := (-1 : Int32)) hx hb d_Latin_indexOf_27 (by decide) ?_
      obtain rfl := Option.some.inj hf
      exact mm_iret hx hb hr hlocks hK (mm_wsub hw [] (by decide) rfl rfl) rfl d_Latin_indexOf_28
  · replace hf := mm_ip hc hf
    refine lv_iconst (v := (-1 : Int32)) hx hb d_Latin_indexOf_7 (by decide) ?_
    obtain rfl := Option.some.inj hf
    exact mm_iret hx hb hr hlocks hK (mm_wsub hw [] (by decide) rfl rfl) rfl d_Latin_indexOf_8
/-! java/lang/String.indexOf(II)I -/
def f_String_indexOf_1 (N : Nat) (k : Nat) (ch : Int32) (a : Int32) : Option (Int32) := mm_b1 f_String_isLatin1 (fun r_1 => (if r_1 = 0 then none else mm_b1 (f_String_length k) (fun r_2 => mm_b1 (f_Latin_indexOf N k ch a r_2) (fun r_3 => some (r_3)))))
abbrev r_String_indexOf_1 : Room := { frames := 2, cells := 0, slots := 0, locals := 48 }
set_option maxHeartbeats 4000000 in
set_option maxRecDepth 100000 in
theorem c_String_indexOf_1 (l : Launch) {Z : (Nat → Prop) → State → Heap → Prop} {ad adK adV : Nat → Nat} (Zo : mm_Zx Z ad adK adV) (dC : Nat → ClassId) (dI : Nat → Nat → Nat) (cC cI cJ cQ : ClassId) (N : Nat) (k : Nat) (ch : Int32) (a : Int32) (h_k_lt : k < NK) (sz : Nat) (out : Int32) (hf : f_String_indexOf_1 N k ch a = some out) : Met l y_String_indexOf_1 w_String_indexOf_1 r_String_indexOf_1 (mm_pre (dC, dI) vwC (tyl cC cI cJ cQ) Z [] sz [.ref (adK k), .int ch, .int a]) (mm_qi (dC, dI) vwC (tyl cC cI cJ cQ) (va_A [] sz) [] out) 0 0 (va_A [] sz) := by
  refine mm_of (own := "java/lang/String") (cc := b_String_indexOf_1) (maxL := 3) (ret := (some .int)) (by decide) rfl rfl ?_
  intro p e s m below meth c hsz C0 hw hname
  generalize (va_A [] sz) = A at C0 hw ⊢
  have hl := lv_entry ([.ref (adK k), .int ch, .int a]) (n := 3) (Nat.le_of_ble_eq_true rfl)
  rw [lg_entry_eq]
  generalize (lg_sl ([.ref (adK k), .int ch, .int a]) ++ List.replicate (3 - (lg_sl ([.ref (adK k), .int ch, .int a])).length) Slot.unset).toArray = ls at hl ⊢
  have hl : lv_has ls 3 [(0, .ref (adK k)), (1, .int ch), (2, .int a)] := hl
  obtain ⟨hx, hb, hr, hml, hown, hts, hlocks, hK, hZ, hA⟩ := id C0
  generalize s.heap = H at hw ⊢
  unfold f_String_indexOf_1 at hf
  refine lv_aload_n hx hb d_String_indexOf_1_0 rfl (lv_at hl 0 rfl) ?_
  obtain ⟨r_1, hu, hf⟩ := mm_b1_ok hf
  refine mm_ci (wr := []) (va_runV (As := []) (rest := []) ⟨hx, hb, hml, hown, hts⟩ (c_String_isLatin1 l Zo dC dI cC cI cJ cQ k h_k_lt  H.size r_1 hu) (cwV 0 hts (mm_gV q_315 q_316 q_317 q_69 q_318) rfl rfl rfl (by decide +kernel) ⟨Nat.le_of_ble_eq_true rfl, Nat.le_of_ble_eq_true rfl⟩) (mm_pvR Zo.1 hK hw hZ hA [] (by decide) rfl rfl (vk_recv ((Zo.2 _ _ _ hZ).2.2.1) h_k_lt hw.2.2)) rfl rfl hl.1 rfl (lv_room (Nat.le_of_ble_eq_true rfl)) d_String_indexOf_1_1 ⟨Nat.le_refl _, Nat.le_refl _⟩) hw hA [] [] rfl rfl (by decide) (by decide) (fun H locs hw => ?_)
  have hw : mm_w (dC, dI) vwC A s [] H locs := hw
  refine lv_if_eq (tgt := 23) hx hb d_String_indexOf_1_4 (by decide) (fun hc => ?_) (fun hc => ?_)
  · replace hf := mm_ip hc hf
    cases hf
  · replace hf := mm_in hc hf
    refine lv_aload_n hx hb d_String_indexOf_1_7 rfl (lv_at hl 0 rfl) ?_
    refine vk_getf hx hb (((Zo.2 _ _ _ hZ).2.2.1).1 _ h_k_lt).2.2.1 hw.2.2 hown (hts _ (List.mem_cons_of_mem _ q_1058)) (fun _ h9 => h9) d_String_indexOf_1_8 ?_
    refine lv_iload_n hx hb d_String_indexOf_1_11 rfl (lv_at hl 1 rfl) ?_
    refine lv_iload_n hx hb d_String_indexOf_1_12 rfl (lv_at hl 2 rfl) ?_
    refine lv_aload_n hx hb d_String_indexOf_1_13 rfl (lv_at hl 0 rfl) ?_
    obtain ⟨r_2, hu, hf⟩ := mm_b1_ok hf
    refine mm_ci (wr := []) (va_runV (As := []) (rest := [.int a, .int ch, .ref (adV k)]) ⟨hx, hb, hml, hown, hts⟩ (c_String_length l Zo dC dI cC cI cJ cQ k h_k_lt  H.size r_2 hu) (cwV 0 hts (mm_gV q_321 q_322 q_323 q_69 q_324) rfl rfl rfl (by decide +kernel) ⟨Nat.le_of_ble_eq_true rfl, Nat.le_of_ble_eq_true rfl⟩) (mm_pvR Zo.1 hK hw hZ hA [] (by decide) rfl rfl (vk_recv ((Zo.2 _ _ _ hZ).2.2.1) h_k_lt hw.2.2)) rfl rfl hl.1 rfl (lv_room (Nat.le_of_ble_eq_true rfl)) d_String_indexOf_1_14 ⟨Nat.le_refl _, Nat.le_refl _⟩) hw hA [] [] rfl rfl (by decide) (by decide) (fun H locs hw => ?_)
    have hw : mm_w (dC, dI) vwC A s [] H locs := hw
    obtain ⟨r_3, hu, hf⟩ := mm_b1_ok hf
    refine mm_ci (wr := []) (va_runS (As := [.ref (adV k), .int ch, .int a, .int r_2]) (rest := []) ⟨hx, hb, hml, hown, hts⟩ (c_Latin_indexOf l Zo dC dI cC cI cJ cQ N k ch a r_2 h_k_lt  H.size r_3 hu) (va_cwS 4 hts (mm_gS q_329 q_330 q_70 q_331) rfl rfl rfl (by decide +kernel) ⟨Nat.le_of_ble_eq_true rfl, Nat.le_of_ble_eq_true rfl⟩) (mm_ps Zo.1 hK hw hZ hA [] (by decide) rfl rfl) rfl rfl hl.1 rfl (lv_room (Nat.le_of_ble_eq_true rfl)) d_String_indexOf_1_17 ⟨Nat.le_refl _, Nat.le_refl _⟩) hw hA [] [] rfl rfl (by decide) (by decide) (fun H locs hw => ?_)
    have hw : mm_w (dC, dI) vwC A s [] H locs := hw
    refine lv_goto (tgt := 36) hx hb d_String_indexOf_1_20 (by decide) ?_
    obtain rfl := Option.some.inj hf
    exact mm_iret hx hb hr hlocks hK (mm_wsub hw [] (by decide) rfl rfl) rfl d_String_indexOf_1_36
/-! java/lang/String.indexOf(I)I -/
def f_String_indexOf (N : Nat) (k : Nat) (ch : Int32) : Option (Int32) := mm_b1 (f_String_indexOf_1 N k ch (0 : Int32)) (fun r_1 => some (r_1))
abbrev r_String_indexOf : Room := { frames := 3, cells := 0, slots := 0, locals := 70 }
set_option maxHeartbeats 4000000 in
set_option maxRecDepth 100000 in
theorem c_String_indexOf (l : Launch) {Z : (Nat → Prop) → State → Heap → Prop} {ad adK adV : Nat → Nat} (Zo : mm_Zx Z ad adK adV) (dC : Nat → ClassId) (dI : Nat → Nat → Nat) (cC cI cJ cQ : ClassId) (N : Nat) (k : Nat) (ch : Int32) (h_k_lt : k < NK) (sz : Nat) (out : Int32) (hf : f_String_indexOf N k ch = some out) : Met l y_String_indexOf w_String_indexOf r_String_indexOf (mm_pre (dC, dI) vwC (tyl cC cI cJ cQ) Z [] sz [.ref (adK k), .int ch]) (mm_qi (dC, dI) vwC (tyl cC cI cJ cQ) (va_A [] sz) [] out) 0 0 (va_A [] sz) := by
  refine mm_of (own := "java/lang/String") (cc := b_String_indexOf) (maxL := 2) (ret := (some .int)) (by decide) rfl rfl ?_
  intro p e s m below meth c hsz C0 hw hname
  generalize (va_A [] sz) = A at C0 hw ⊢
  have hl := lv_entry ([.ref (adK k), .int ch]) (n := 2) (Nat.le_of_ble_eq_true rfl)
  rw [lg_entry_eq]
  generalize (lg_sl ([.ref (adK k), .int ch]) ++ List.replicate (2 - (lg_sl ([.ref (adK k), .int ch])).length) Slot.unset).toArray = ls at hl ⊢
  have hl : lv_has ls 2 [(0, .ref (adK k)), (1, .int ch)] := hl
  obtain ⟨hx, hb, hr, hml, hown, hts, hlocks, hK, hZ, hA⟩ := id C0
  generalize s.heap = H at hw ⊢
  unfold f_String_indexOf at hf
  refine lv_aload_n hx hb d_String_indexOf_0 rfl (lv_at hl 0 rfl) ?_
  refine lv_iload_n hx hb d_String_indexOf_1 rfl (lv_at hl 1 rfl) ?_
  refine lv_iconst (v := (0 : Int32)) hx hb d_String_indexOf_2 (by decide) ?_
  obtain ⟨r_1, hu, hf⟩ := mm_b1_ok hf
  refine mm_ci (wr := []) (va_runV (As := [.int ch, .int (0 : Int32)]) (rest := []) ⟨hx, hb, hml, hown, hts⟩ (c_String_indexOf_1 l Zo dC dI cC cI cJ cQ N k ch (0 : Int32) h_k_lt  H.size r_1 hu) (cwV 2 hts (mm_gV q_311 q_312 q_313 q_69 q_314) rfl rfl rfl (by decide +kernel) ⟨Nat.le_of_ble_eq_true rfl, Nat.le_of_ble_eq_true rfl⟩) (mm_pvR Zo.1 hK hw hZ hA [] (by decide) rfl rfl (vk_recv ((Zo.2 _ _ _ hZ).2.2.1) h_k_lt hw.2.2)) rfl rfl hl.1 rfl (lv_room (Nat.le_of_ble_eq_true rfl)) d_String_indexOf_3 ⟨Nat.le_refl _, Nat.le_refl _⟩) hw hA [] [] rfl rfl (by decide) (by decide) (fun H locs hw => ?_)
  have hw : mm_w (dC, dI) vwC A s [] H locs := hw
  obtain rfl := Option.some.inj hf
  exact mm_iret hx hb hr hlocks hK (mm_wsub hw [] (by decide) rfl rfl) rfl d_String_indexOf_6
end
