section
variable {p : Program} {l : Launch} {e : Env} {s : State} {m : MethodId} {args : Array Value} {below : List Frame} {meth : Method} {c : Code} {dC : Nat → ClassId} {dI : Nat → Nat → Nat} {cC cI cJ cQ : ClassId} {A : Nat → Prop} {Z : (Nat → Prop) → State → Heap → Prop} {ad adK adV : Nat → Nat}
abbrev b_DP_addArgument : ByteArray := prog_1_method_15_code
abbrev y_DP_addArgument : MethodName := ⟨"DirectivePrinter", "addArgument", "(LDirectivePrinter$Kind;JI)I"⟩
def w_DP_addArgument : List Cond := .code y_DP_addArgument b_DP_addArgument 6 (some .int) :: lw_g
theorem d_DP_addArgument_0 : decode b_DP_addArgument 0 = .ok (.aload_n 0, 1) := by decide +kernel
theorem d_DP_addArgument_1 : decode b_DP_addArgument 1 = .ok (.getfield 43, 3) := by decide +kernel
theorem d_DP_addArgument_4 : decode b_DP_addArgument 4 = .ok (.ifCond .lt 15, 3) := by decide +kernel
theorem d_DP_addArgument_7 : decode b_DP_addArgument 7 = .ok (.aload_n 0, 1) := by decide +kernel
theorem d_DP_addArgument_8 : decode b_DP_addArgument 8 = .ok (.getfield 43, 3) := by decide +kernel
theorem d_DP_addArgument_11 : decode b_DP_addArgument 11 = .ok (.aload_n 0, 1) := by decide +kernel
theorem d_DP_addArgument_12 : decode b_DP_addArgument 12 = .ok (.getfield 20, 3) := by decide +kernel
theorem d_DP_addArgument_15 : decode b_DP_addArgument 15 = .ok (.arraylength, 1) := by decide +kernel
theorem d_DP_addArgument_16 : decode b_DP_addArgument 16 = .ok (.if_icmp .lt 5, 3) := by decide +kernel
theorem d_DP_addArgument_19 : decode b_DP_addArgument 19 = .ok (.iconst (-1), 1) := by decide +kernel
theorem d_DP_addArgument_20 : decode b_DP_addArgument 20 = .ok (.ireturn, 1) := by decide +kernel
theorem d_DP_addArgument_21 : decode b_DP_addArgument 21 = .ok (.aload_n 0, 1) := by decide +kernel
theorem d_DP_addArgument_22 : decode b_DP_addArgument 22 = .ok (.getfield 20, 3) := by decide +kernel
theorem d_DP_addArgument_25 : decode b_DP_addArgument 25 = .ok (.aload_n 0, 1) := by decide +kernel
theorem d_DP_addArgument_26 : decode b_DP_addArgument 26 = .ok (.getfield 43, 3) := by decide +kernel
theorem d_DP_addArgument_29 : decode b_DP_addArgument 29 = .ok (.aaload, 1) := by decide +kernel
theorem d_DP_addArgument_30 : decode b_DP_addArgument 30 = .ok (.astore 5, 2) := by decide +kernel
theorem d_DP_addArgument_32 : decode b_DP_addArgument 32 = .ok (.aload 5, 2) := by decide +kernel
theorem d_DP_addArgument_34 : decode b_DP_addArgument 34 = .ok (.ifnonnull 5, 3) := by decide +kernel
theorem d_DP_addArgument_37 : decode b_DP_addArgument 37 = .ok (.iconst (-1), 1) := by decide +kernel
theorem d_DP_addArgument_38 : decode b_DP_addArgument 38 = .ok (.ireturn, 1) := by decide +kernel
theorem d_DP_addArgument_39 : decode b_DP_addArgument 39 = .ok (.aload 5, 2) := by decide +kernel
theorem d_DP_addArgument_41 : decode b_DP_addArgument 41 = .ok (.aload_n 1, 1) := by decide +kernel
theorem d_DP_addArgument_42 : decode b_DP_addArgument 42 = .ok (.putfield 142, 3) := by decide +kernel
theorem d_DP_addArgument_45 : decode b_DP_addArgument 45 = .ok (.aload 5, 2) := by decide +kernel
theorem d_DP_addArgument_47 : decode b_DP_addArgument 47 = .ok (.lload_n 2, 1) := by decide +kernel
theorem d_DP_addArgument_48 : decode b_DP_addArgument 48 = .ok (.putfield 145, 3) := by decide +kernel
theorem d_DP_addArgument_51 : decode b_DP_addArgument 51 = .ok (.aload 5, 2) := by decide +kernel
theorem d_DP_addArgument_53 : decode b_DP_addArgument 53 = .ok (.iload 4, 2) := by decide +kernel
theorem d_DP_addArgument_55 : decode b_DP_addArgument 55 = .ok (.putfield 149, 3) := by decide +kernel
theorem d_DP_addArgument_58 : decode b_DP_addArgument 58 = .ok (.aload_n 0, 1) := by decide +kernel
theorem d_DP_addArgument_59 : decode b_DP_addArgument 59 = .ok (.dup, 1) := by decide +kernel
theorem d_DP_addArgument_60 : decode b_DP_addArgument 60 = .ok (.getfield 43, 3) := by decide +kernel
theorem d_DP_addArgument_63 : decode b_DP_addArgument 63 = .ok (.iconst 1, 1) := by decide +kernel
theorem d_DP_addArgument_64 : decode b_DP_addArgument 64 = .ok (.iadd, 1) := by decide +kernel
theorem d_DP_addArgument_65 : decode b_DP_addArgument 65 = .ok (.putfield 43, 3) := by decide +kernel
theorem d_DP_addArgument_68 : decode b_DP_addArgument 68 = .ok (.aload_n 0, 1) := by decide +kernel
theorem d_DP_addArgument_69 : decode b_DP_addArgument 69 = .ok (.getfield 43, 3) := by decide +kernel
theorem d_DP_addArgument_72 : decode b_DP_addArgument 72 = .ok (.ireturn, 1) := by decide +kernel
abbrev b_DP_argumentNumbered : ByteArray := prog_1_method_16_code
abbrev y_DP_argumentNumbered : MethodName := ⟨"DirectivePrinter", "argumentNumbered", "(I)LDirectivePrinter$Argument;"⟩
def w_DP_argumentNumbered : List Cond := .code y_DP_argumentNumbered b_DP_argumentNumbered 2 (some (.object "DirectivePrinter$Argument")) :: lw_g
theorem d_DP_argumentNumbered_0 : decode b_DP_argumentNumbered 0 = .ok (.iload_n 1, 1) := by decide +kernel
theorem d_DP_argumentNumbered_1 : decode b_DP_argumentNumbered 1 = .ok (.iconst 1, 1) := by decide +kernel
theorem d_DP_argumentNumbered_2 : decode b_DP_argumentNumbered 2 = .ok (.if_icmp .lt 20, 3) := by decide +kernel
theorem d_DP_argumentNumbered_5 : decode b_DP_argumentNumbered 5 = .ok (.iload_n 1, 1) := by decide +kernel
theorem d_DP_argumentNumbered_6 : decode b_DP_argumentNumbered 6 = .ok (.aload_n 0, 1) := by decide +kernel
theorem d_DP_argumentNumbered_7 : decode b_DP_argumentNumbered 7 = .ok (.getfield 43, 3) := by decide +kernel
theorem d_DP_argumentNumbered_10 : decode b_DP_argumentNumbered 10 = .ok (.if_icmp .gt 12, 3) := by decide +kernel
theorem d_DP_argumentNumbered_13 : decode b_DP_argumentNumbered 13 = .ok (.iload_n 1, 1) := by decide +kernel
theorem d_DP_argumentNumbered_14 : decode b_DP_argumentNumbered 14 = .ok (.aload_n 0, 1) := by decide +kernel
theorem d_DP_argumentNumbered_15 : decode b_DP_argumentNumbered 15 = .ok (.getfield 20, 3) := by decide +kernel
theorem d_DP_argumentNumbered_18 : decode b_DP_argumentNumbered 18 = .ok (.arraylength, 1) := by decide +kernel
theorem d_DP_argumentNumbered_19 : decode b_DP_argumentNumbered 19 = .ok (.if_icmp .le 5, 3) := by decide +kernel
theorem d_DP_argumentNumbered_22 : decode b_DP_argumentNumbered 22 = .ok (.aconst_null, 1) := by decide +kernel
theorem d_DP_argumentNumbered_23 : decode b_DP_argumentNumbered 23 = .ok (.areturn, 1) := by decide +kernel
theorem d_DP_argumentNumbered_24 : decode b_DP_argumentNumbered 24 = .ok (.aload_n 0, 1) := by decide +kernel
theorem d_DP_argumentNumbered_25 : decode b_DP_argumentNumbered 25 = .ok (.getfield 20, 3) := by decide +kernel
theorem d_DP_argumentNumbered_28 : decode b_DP_argumentNumbered 28 = .ok (.iload_n 1, 1) := by decide +kernel
theorem d_DP_argumentNumbered_29 : decode b_DP_argumentNumbered 29 = .ok (.iconst 1, 1) := by decide +kernel
theorem d_DP_argumentNumbered_30 : decode b_DP_argumentNumbered 30 = .ok (.isub, 1) := by decide +kernel
theorem d_DP_argumentNumbered_31 : decode b_DP_argumentNumbered 31 = .ok (.aaload, 1) := by decide +kernel
theorem d_DP_argumentNumbered_32 : decode b_DP_argumentNumbered 32 = .ok (.areturn, 1) := by decide +kernel
abbrev b_DP_nothing : ByteArray := prog_1_method_5_code
abbrev y_DP_nothing : MethodName := ⟨"DirectivePrinter", "nothing", "()I"⟩
def w_DP_nothing : List Cond := .code y_DP_nothing b_DP_nothing 1 (some .int) :: lw_g
theorem d_DP_nothing_0 : decode b_DP_nothing 0 = .ok (.aload_n 0, 1) := by decide +kernel
theorem d_DP_nothing_1 : decode b_DP_nothing 1 = .ok (.getstatic 79, 3) := by decide +kernel
theorem d_DP_nothing_4 : decode b_DP_nothing 4 = .ok (.lconst 0, 1) := by decide +kernel
theorem d_DP_nothing_5 : decode b_DP_nothing 5 = .ok (.iconst 0, 1) := by decide +kernel
theorem d_DP_nothing_6 : decode b_DP_nothing 6 = .ok (.invokevirtual 85, 3) := by decide +kernel
theorem d_DP_nothing_9 : decode b_DP_nothing 9 = .ok (.ireturn, 1) := by decide +kernel
abbrev b_DP_truth : ByteArray := prog_1_method_6_code
abbrev y_DP_truth : MethodName := ⟨"DirectivePrinter", "truth", "(Z)I"⟩
def w_DP_truth : List Cond := .code y_DP_truth b_DP_truth 2 (some .int) :: lw_g
theorem d_DP_truth_0 : decode b_DP_truth 0 = .ok (.aload_n 0, 1) := by decide +kernel
theorem d_DP_truth_1 : decode b_DP_truth 1 = .ok (.getstatic 89, 3) := by decide +kernel
theorem d_DP_truth_4 : decode b_DP_truth 4 = .ok (.iload_n 1, 1) := by decide +kernel
theorem d_DP_truth_5 : decode b_DP_truth 5 = .ok (.ifCond .eq 7, 3) := by decide +kernel
theorem d_DP_truth_8 : decode b_DP_truth 8 = .ok (.lconst 1, 1) := by decide +kernel
theorem d_DP_truth_9 : decode b_DP_truth 9 = .ok (.goto 4, 3) := by decide +kernel
theorem d_DP_truth_12 : decode b_DP_truth 12 = .ok (.lconst 0, 1) := by decide +kernel
theorem d_DP_truth_13 : decode b_DP_truth 13 = .ok (.iconst 0, 1) := by decide +kernel
theorem d_DP_truth_14 : decode b_DP_truth 14 = .ok (.invokevirtual 85, 3) := by decide +kernel
theorem d_DP_truth_17 : decode b_DP_truth 17 = .ok (.ireturn, 1) := by decide +kernel
abbrev b_DP_symbol : ByteArray := prog_1_method_7_code
abbrev y_DP_symbol : MethodName := ⟨"DirectivePrinter", "symbol", "(I)I"⟩
def w_DP_symbol : List Cond := .code y_DP_symbol b_DP_symbol 2 (some .int) :: lw_g
theorem d_DP_symbol_0 : decode b_DP_symbol 0 = .ok (.iload_n 1, 1) := by decide +kernel
theorem d_DP_symbol_1 : decode b_DP_symbol 1 = .ok (.ifCond .lt 10, 3) := by decide +kernel
theorem d_DP_symbol_4 : decode b_DP_symbol 4 = .ok (.iload_n 1, 1) := by decide +kernel
theorem d_DP_symbol_5 : decode b_DP_symbol 5 = .ok (.sipush 255, 3) := by decide +kernel
theorem d_DP_symbol_8 : decode b_DP_symbol 8 = .ok (.if_icmp .le 13, 3) := by decide +kernel
theorem d_DP_symbol_11 : decode b_DP_symbol 11 = .ok (.new 59, 3) := by decide +kernel
theorem d_DP_symbol_14 : decode b_DP_symbol 14 = .ok (.dup, 1) := by decide +kernel
theorem d_DP_symbol_15 : decode b_DP_symbol 15 = .ok (.ldc 92, 2) := by decide +kernel
theorem d_DP_symbol_17 : decode b_DP_symbol 17 = .ok (.invokespecial 63, 3) := by decide +kernel
theorem d_DP_symbol_20 : decode b_DP_symbol 20 = .ok (.athrow, 1) := by decide +kernel
theorem d_DP_symbol_21 : decode b_DP_symbol 21 = .ok (.aload_n 0, 1) := by decide +kernel
theorem d_DP_symbol_22 : decode b_DP_symbol 22 = .ok (.getstatic 94, 3) := by decide +kernel
theorem d_DP_symbol_25 : decode b_DP_symbol 25 = .ok (.iload_n 1, 1) := by decide +kernel
theorem d_DP_symbol_26 : decode b_DP_symbol 26 = .ok (.i2l, 1) := by decide +kernel
theorem d_DP_symbol_27 : decode b_DP_symbol 27 = .ok (.iconst 0, 1) := by decide +kernel
theorem d_DP_symbol_28 : decode b_DP_symbol 28 = .ok (.invokevirtual 85, 3) := by decide +kernel
theorem d_DP_symbol_31 : decode b_DP_symbol 31 = .ok (.ireturn, 1) := by decide +kernel
abbrev b_DP_whole : ByteArray := prog_1_method_8_code
abbrev y_DP_whole : MethodName := ⟨"DirectivePrinter", "whole", "(IJ)I"⟩
def w_DP_whole : List Cond := .code y_DP_whole b_DP_whole 5 (some .int) :: lw_g
theorem d_DP_whole_0 : decode b_DP_whole 0 = .ok (.iload_n 1, 1) := by decide +kernel
theorem d_DP_whole_1 : decode b_DP_whole 1 = .ok (.bipush 8, 2) := by decide +kernel
theorem d_DP_whole_3 : decode b_DP_whole 3 = .ok (.if_icmp .eq 31, 3) := by decide +kernel
theorem d_DP_whole_6 : decode b_DP_whole 6 = .ok (.iload_n 1, 1) := by decide +kernel
theorem d_DP_whole_7 : decode b_DP_whole 7 = .ok (.bipush 16, 2) := by decide +kernel
theorem d_DP_whole_9 : decode b_DP_whole 9 = .ok (.if_icmp .eq 25, 3) := by decide +kernel
theorem d_DP_whole_12 : decode b_DP_whole 12 = .ok (.iload_n 1, 1) := by decide +kernel
theorem d_DP_whole_13 : decode b_DP_whole 13 = .ok (.bipush 32, 2) := by decide +kernel
theorem d_DP_whole_15 : decode b_DP_whole 15 = .ok (.if_icmp .eq 19, 3) := by decide +kernel
theorem d_DP_whole_18 : decode b_DP_whole 18 = .ok (.iload_n 1, 1) := by decide +kernel
theorem d_DP_whole_19 : decode b_DP_whole 19 = .ok (.bipush 64, 2) := by decide +kernel
theorem d_DP_whole_21 : decode b_DP_whole 21 = .ok (.if_icmp .eq 13, 3) := by decide +kernel
theorem d_DP_whole_24 : decode b_DP_whole 24 = .ok (.new 59, 3) := by decide +kernel
theorem d_DP_whole_27 : decode b_DP_whole 27 = .ok (.dup, 1) := by decide +kernel
theorem d_DP_whole_28 : decode b_DP_whole 28 = .ok (.ldc 97, 2) := by decide +kernel
theorem d_DP_whole_30 : decode b_DP_whole 30 = .ok (.invokespecial 63, 3) := by decide +kernel
theorem d_DP_whole_33 : decode b_DP_whole 33 = .ok (.athrow, 1) := by decide +kernel
theorem d_DP_whole_34 : decode b_DP_whole 34 = .ok (.bipush 64, 2) := by decide +kernel
theorem d_DP_whole_36 : decode b_DP_whole 36 = .ok (.iload_n 1, 1) := by decide +kernel
theorem d_DP_whole_37 : decode b_DP_whole 37 = .ok (.isub, 1) := by decide +kernel
theorem d_DP_whole_38 : decode b_DP_whole 38 = .ok (.istore 4, 2) := by decide +kernel
theorem d_DP_whole_40 : decode b_DP_whole 40 = .ok (.aload_n 0, 1) := by decide +kernel
theorem d_DP_whole_41 : decode b_DP_whole 41 = .ok (.getstatic 99, 3) := by decide +kernel
theorem d_DP_whole_44 : decode b_DP_whole 44 = .ok (.lload_n 2, 1) := by decide +kernel
theorem d_DP_whole_45 : decode b_DP_whole 45 = .ok (.iload 4, 2) := by decide +kernel
theorem d_DP_whole_47 : decode b_DP_whole 47 = .ok (.lshl, 1) := by decide +kernel
theorem d_DP_whole_48 : decode b_DP_whole 48 = .ok (.iload 4, 2) := by decide +kernel
theorem d_DP_whole_50 : decode b_DP_whole 50 = .ok (.lshr, 1) := by decide +kernel
theorem d_DP_whole_51 : decode b_DP_whole 51 = .ok (.iload_n 1, 1) := by decide +kernel
theorem d_DP_whole_52 : decode b_DP_whole 52 = .ok (.invokevirtual 85, 3) := by decide +kernel
theorem d_DP_whole_55 : decode b_DP_whole 55 = .ok (.ireturn, 1) := by decide +kernel
abbrev b_DP_decimal : ByteArray := prog_1_method_10_code
abbrev y_DP_decimal : MethodName := ⟨"DirectivePrinter", "decimal", "(JI)I"⟩
def w_DP_decimal : List Cond := .code y_DP_decimal b_DP_decimal 4 (some .int) :: lw_g
theorem d_DP_decimal_0 : decode b_DP_decimal 0 = .ok (.iload_n 3, 1) := by decide +kernel
theorem d_DP_decimal_1 : decode b_DP_decimal 1 = .ok (.ifCond .lt 9, 3) := by decide +kernel
theorem d_DP_decimal_4 : decode b_DP_decimal 4 = .ok (.iload_n 3, 1) := by decide +kernel
theorem d_DP_decimal_5 : decode b_DP_decimal 5 = .ok (.bipush 40, 2) := by decide +kernel
theorem d_DP_decimal_7 : decode b_DP_decimal 7 = .ok (.if_icmp .le 13, 3) := by decide +kernel
theorem d_DP_decimal_10 : decode b_DP_decimal 10 = .ok (.new 59, 3) := by decide +kernel
theorem d_DP_decimal_13 : decode b_DP_decimal 13 = .ok (.dup, 1) := by decide +kernel
theorem d_DP_decimal_14 : decode b_DP_decimal 14 = .ok (.ldc 121, 2) := by decide +kernel
theorem d_DP_decimal_16 : decode b_DP_decimal 16 = .ok (.invokespecial 63, 3) := by decide +kernel
theorem d_DP_decimal_19 : decode b_DP_decimal 19 = .ok (.athrow, 1) := by decide +kernel
theorem d_DP_decimal_20 : decode b_DP_decimal 20 = .ok (.aload_n 0, 1) := by decide +kernel
theorem d_DP_decimal_21 : decode b_DP_decimal 21 = .ok (.getstatic 123, 3) := by decide +kernel
theorem d_DP_decimal_24 : decode b_DP_decimal 24 = .ok (.lload_n 1, 1) := by decide +kernel
theorem d_DP_decimal_25 : decode b_DP_decimal 25 = .ok (.iload_n 3, 1) := by decide +kernel
theorem d_DP_decimal_26 : decode b_DP_decimal 26 = .ok (.invokevirtual 85, 3) := by decide +kernel
theorem d_DP_decimal_29 : decode b_DP_decimal 29 = .ok (.ireturn, 1) := by decide +kernel
abbrev b_DP_write : ByteArray := prog_1_method_2_code
abbrev y_DP_write : MethodName := ⟨"DirectivePrinter", "write", "(IJ)I"⟩
def w_DP_write : List Cond := .code y_DP_write b_DP_write 5 (some .int) :: lw_g
theorem d_DP_write_0 : decode b_DP_write 0 = .ok (.iload_n 1, 1) := by decide +kernel
theorem d_DP_write_1 : decode b_DP_write 1 = .ok (.iconst 1, 1) := by decide +kernel
theorem d_DP_write_2 : decode b_DP_write 2 = .ok (.if_icmp .lt 9, 3) := by decide +kernel
theorem d_DP_write_5 : decode b_DP_write 5 = .ok (.iload_n 1, 1) := by decide +kernel
theorem d_DP_write_6 : decode b_DP_write 6 = .ok (.bipush 8, 2) := by decide +kernel
theorem d_DP_write_8 : decode b_DP_write 8 = .ok (.if_icmp .le 13, 3) := by decide +kernel
theorem d_DP_write_11 : decode b_DP_write 11 = .ok (.new 59, 3) := by decide +kernel
theorem d_DP_write_14 : decode b_DP_write 14 = .ok (.dup, 1) := by decide +kernel
theorem d_DP_write_15 : decode b_DP_write 15 = .ok (.ldc 61, 2) := by decide +kernel
theorem d_DP_write_17 : decode b_DP_write 17 = .ok (.invokespecial 63, 3) := by decide +kernel
theorem d_DP_write_20 : decode b_DP_write 20 = .ok (.athrow, 1) := by decide +kernel
theorem d_DP_write_21 : decode b_DP_write 21 = .ok (.aload_n 0, 1) := by decide +kernel
theorem d_DP_write_22 : decode b_DP_write 22 = .ok (.getfield 14, 3) := by decide +kernel
theorem d_DP_write_25 : decode b_DP_write 25 = .ok (.invokevirtual 66, 3) := by decide +kernel
theorem d_DP_write_28 : decode b_DP_write 28 = .ok (.iload_n 1, 1) := by decide +kernel
theorem d_DP_write_29 : decode b_DP_write 29 = .ok (.iadd, 1) := by decide +kernel
theorem d_DP_write_30 : decode b_DP_write 30 = .ok (.sipush 256, 3) := by decide +kernel
theorem d_DP_write_33 : decode b_DP_write 33 = .ok (.if_icmp .le 5, 3) := by decide +kernel
theorem d_DP_write_36 : decode b_DP_write 36 = .ok (.iconst (-1), 1) := by decide +kernel
theorem d_DP_write_37 : decode b_DP_write 37 = .ok (.ireturn, 1) := by decide +kernel
theorem d_DP_write_38 : decode b_DP_write 38 = .ok (.iconst 0, 1) := by decide +kernel
theorem d_DP_write_39 : decode b_DP_write 39 = .ok (.istore 4, 2) := by decide +kernel
theorem d_DP_write_41 : decode b_DP_write 41 = .ok (.iload 4, 2) := by decide +kernel
theorem d_DP_write_43 : decode b_DP_write 43 = .ok (.iload_n 1, 1) := by decide +kernel
theorem d_DP_write_44 : decode b_DP_write 44 = .ok (.if_icmp .ge 29, 3) := by decide +kernel
theorem d_DP_write_47 : decode b_DP_write 47 = .ok (.aload_n 0, 1) := by decide +kernel
theorem d_DP_write_48 : decode b_DP_write 48 = .ok (.getfield 14, 3) := by decide +kernel
theorem d_DP_write_51 : decode b_DP_write 51 = .ok (.lload_n 2, 1) := by decide +kernel
theorem d_DP_write_52 : decode b_DP_write 52 = .ok (.bipush 8, 2) := by decide +kernel
theorem d_DP_write_54 : decode b_DP_write 54 = .ok (.iload 4, 2) := by decide +kernel
theorem d_DP_write_56 : decode b_DP_write 56 = .ok (.imul, 1) := by decide +kernel
theorem d_DP_write_57 : decode b_DP_write 57 = .ok (.lushr, 1) := by decide +kernel
theorem d_DP_write_58 : decode b_DP_write 58 = .ok (.ldc2_w 70, 3) := by decide +kernel
theorem d_DP_write_61 : decode b_DP_write 61 = .ok (.land, 1) := by decide +kernel
theorem d_DP_write_62 : decode b_DP_write 62 = .ok (.l2i, 1) := by decide +kernel
theorem d_DP_write_63 : decode b_DP_write 63 = .ok (.i2c, 1) := by decide +kernel
theorem d_DP_write_64 : decode b_DP_write 64 = .ok (.invokevirtual 72, 3) := by decide +kernel
theorem d_DP_write_67 : decode b_DP_write 67 = .ok (.iinc 4 1, 3) := by decide +kernel
theorem d_DP_write_70 : decode b_DP_write 70 = .ok (.goto (-29), 3) := by decide +kernel
theorem d_DP_write_73 : decode b_DP_write 73 = .ok (.aload_n 0, 1) := by decide +kernel
theorem d_DP_write_74 : decode b_DP_write 74 = .ok (.getfield 14, 3) := by decide +kernel
theorem d_DP_write_77 : decode b_DP_write 77 = .ok (.invokevirtual 66, 3) := by decide +kernel
theorem d_DP_write_80 : decode b_DP_write 80 = .ok (.ireturn, 1) := by decide +kernel
set_option maxRecDepth 100000 in
theorem q_209 : (.fieldLink "DirectivePrinter" 20 "DirectivePrinter" "arguments" "[LDirectivePrinter$Argument;" : Cond) ∈ lw_g := List.mem_filter.mpr ⟨List.mem_of_getElem? (i := 209) (by decide +kernel), by decide +kernel⟩
set_option maxRecDepth 100000 in
theorem q_258 : (.fieldLink "DirectivePrinter" 79 "DirectivePrinter$Kind" "NOTHING" "LDirectivePrinter$Kind;" : Cond) ∈ lw_g := List.mem_filter.mpr ⟨List.mem_of_getElem? (i := 258) (by decide +kernel), by decide +kernel⟩
set_option maxRecDepth 100000 in
theorem q_259 : (.methodLink "DirectivePrinter" 85 ⟨"DirectivePrinter", "addArgument", "(LDirectivePrinter$Kind;JI)I"⟩ : Cond) ∈ lw_g := List.mem_filter.mpr ⟨List.mem_of_getElem? (i := 259) (by decide +kernel), by decide +kernel⟩
set_option maxRecDepth 100000 in
theorem q_261 : (.instanceMethod ⟨"DirectivePrinter", "addArgument", "(LDirectivePrinter$Kind;JI)I"⟩ : Cond) ∈ lw_g := List.mem_filter.mpr ⟨List.mem_of_getElem? (i := 261) (by decide +kernel), by decide +kernel⟩
set_option maxRecDepth 100000 in
theorem q_0 : (.selects "DirectivePrinter" ⟨"DirectivePrinter", "addArgument", "(LDirectivePrinter$Kind;JI)I"⟩ ⟨"DirectivePrinter", "addArgument", "(LDirectivePrinter$Kind;JI)I"⟩ : Cond) ∈ lw_g := List.mem_filter.mpr ⟨List.mem_of_getElem? (i := 0) (by decide +kernel), by decide +kernel⟩
set_option maxRecDepth 100000 in
theorem q_262 : (.code ⟨"DirectivePrinter", "addArgument", "(LDirectivePrinter$Kind;JI)I"⟩ prog_1_method_15_code 6 (Option.some FieldType.int) : Cond) ∈ lw_g := List.mem_filter.mpr ⟨List.mem_of_getElem? (i := 262) (rfl), by decide +kernel⟩
set_option maxRecDepth 100000 in
theorem q_267 : (.fieldLink "DirectivePrinter" 89 "DirectivePrinter$Kind" "TRUTH" "LDirectivePrinter$Kind;" : Cond) ∈ lw_g := List.mem_filter.mpr ⟨List.mem_of_getElem? (i := 267) (by decide +kernel), by decide +kernel⟩
set_option maxRecDepth 100000 in
theorem q_733 : (.fieldLink "DirectivePrinter" 94 "DirectivePrinter$Kind" "CHARACTER" "LDirectivePrinter$Kind;" : Cond) ∈ lw_g := List.mem_filter.mpr ⟨List.mem_of_getElem? (i := 733) (by decide +kernel), by decide +kernel⟩
set_option maxRecDepth 100000 in
theorem q_742 : (.fieldLink "DirectivePrinter" 99 "DirectivePrinter$Kind" "WHOLE" "LDirectivePrinter$Kind;" : Cond) ∈ lw_g := List.mem_filter.mpr ⟨List.mem_of_getElem? (i := 742) (by decide +kernel), by decide +kernel⟩
set_option maxRecDepth 100000 in
theorem q_777 : (.fieldLink "DirectivePrinter" 123 "DirectivePrinter$Kind" "DECIMAL" "LDirectivePrinter$Kind;" : Cond) ∈ lw_g := List.mem_filter.mpr ⟨List.mem_of_getElem? (i := 777) (by decide +kernel), by decide +kernel⟩
set_option maxRecDepth 100000 in
theorem q_724 : (.constantLong "DirectivePrinter" 70 (255 : Int64) : Cond) ∈ lw_g := List.mem_filter.mpr ⟨List.mem_of_getElem? (i := 724) (by decide +kernel), by decide +kernel⟩
/-! DirectivePrinter.addArgument(LDirectivePrinter$Kind;JI)I -/
def f_DP_addArgument (x_argumentCount : Int32) (kd : Nat) (vl : Int64) (so : Int32) (x_kind : Nat → Nat) (x_value : Nat → Int64) (x_sz : Nat → Int32) : Option (Int32 × Int32 × (Nat → Nat) × (Nat → Int64) × (Nat → Int32)) := (if x_argumentCount < 0 then some ((-1 : Int32), x_argumentCount, x_kind, x_value, x_sz) else (if x_argumentCount < (nI (9)) then (if x_argumentCount < 0 ∨ 9 ≤ x_argumentCount.toNatClampNeg then none else some (x_argumentCount + (1 : Int32), x_argumentCount + (1 : Int32), va_up x_kind x_argumentCount.toNatClampNeg kd, va_up x_value x_argumentCount.toNatClampNeg vl, va_up x_sz x_argumentCount.toNatClampNeg so)) else some ((-1 : Int32), x_argumentCount, x_kind, x_value, x_sz)))
abbrev r_DP_addArgument : Room := { frames := 0, cells := 0, slots := 0, locals := 0 }
set_option maxHeartbeats 4000000 in
set_option maxRecDepth 100000 in
theorem c_DP_addArgument (l : Launch) {Z : (Nat → Prop) → State → Heap → Prop} {ad adK adV : Nat → Nat} (Zo : mm_Zx Z ad adK adV) (dC : Nat → ClassId) (dI : Nat → Nat → Nat) (cC cI cJ cQ : ClassId) (x_argumentCount : Int32) (x_lastFault : Int32) (x_lastPlace : Int32) (x_unnumbered : Int32) (x_previousArgument : Int32) (kd : Nat) (vl : Int64) (so : Int32) (x_kind : Nat → Nat) (x_value : Nat → Int64) (x_sz : Nat → Int32) (x_tlen : Nat → Int32) (x_tkept : Nat → Nat → Int32) (h_kd_lt : kd < 6) (h_x h_x_arguments h_x_format h_x_paper h_x_directive h_x_composer : Nat) (pA pR pK : Nat → Nat) (sz : Nat) (out : Int32 × Int32 × (Nat → Nat) × (Nat → Int64) × (Nat → Int32)) (hf : f_DP_addArgument x_argumentCount kd vl so x_kind x_value x_sz = some out) : Met l y_DP_addArgument w_DP_addArgument r_DP_addArgument (mm_pre (dC, dI) vwC (tyl cC cI cJ cQ) Z ([(h_x, .inr (5, [.ref h_x_format, .ref h_x_paper, .ref h_x_arguments, .ref h_x_directive, .ref h_x_composer, .int x_argumentCount, .int x_lastFault, .int x_lastPlace, .int x_unnumbered, .int x_previousArgument])), (h_x_arguments, .inl (cQ, 9, .inr (.inr (.inr (.inr (fun q => some (pA q)))))))] ++ apool pA pR pK ad cC x_kind x_value x_sz x_tlen x_tkept) sz [.ref h_x, .ref (ad kd), .long vl, .int so]) (mm_qi (dC, dI) vwC (tyl cC cI cJ cQ) (va_A ([(h_x, .inr (5, [.ref h_x_format, .ref h_x_paper, .ref h_x_arguments, .ref h_x_directive, .ref h_x_composer, .int x_argumentCount, .int x_lastFault, .int x_lastPlace, .int x_unnumbered, .int x_previousArgument])), (h_x_arguments, .inl (cQ, 9, .inr (.inr (.inr (.inr (fun q => some (pA q)))))))] ++ apool pA pR pK ad cC x_kind x_value x_sz x_tlen x_tkept) sz) ([(h_x, .inr (5, [.ref h_x_format, .ref h_x_paper, .ref h_x_arguments, .ref h_x_directive, .ref h_x_composer, .int out.2.1, .int x_lastFault, .int x_lastPlace, .int x_unnumbered, .int x_previousArgument])), (h_x_arguments, .inl (cQ, 9, .inr (.inr (.inr (.inr (fun q => some (pA q)))))))] ++ apool pA pR pK ad cC out.2.2.1 out.2.2.2.1 out.2.2.2.2 x_tlen x_tkept) out.1) 0 0 (va_A ([(h_x, .inr (5, [.ref h_x_format, .ref h_x_paper, .ref h_x_arguments, .ref h_x_directive, .ref h_x_composer, .int x_argumentCount, .int x_lastFault, .int x_lastPlace, .int x_unnumbered, .int x_previousArgument])), (h_x_arguments, .inl (cQ, 9, .inr (.inr (.inr (.inr (fun q => some (pA q)))))))] ++ apool pA pR pK ad cC x_kind x_value x_sz x_tlen x_tkept) sz) := by
  refine mm_of (own := "DirectivePrinter") (cc := b_DP_addArgument) (maxL := 6) (ret := (some .int)) (by decide) rfl rfl ?_
  intro p e s m below meth c hsz C0 hw hname
  generalize (va_A ([(h_x, .inr (5, [.ref h_x_format, .ref h_x_paper, .ref h_x_arguments, .ref h_x_directive, .ref h_x_composer, .int x_argumentCount, .int x_lastFault, .int x_lastPlace, .int x_unnumbered, .int x_previousArgument])), (h_x_arguments, .inl (cQ, 9, .inr (.inr (.inr (.inr (fun q => some (pA q)))))))] ++ apool pA pR pK ad cC x_kind x_value x_sz x_tlen x_tkept) sz) = A at C0 hw ⊢
  have hl := lv_entry ([.ref h_x, .ref (ad kd), .long vl, .int so]) (n := 6) (Nat.le_of_ble_eq_true rfl)
  rw [lg_entry_eq]
  generalize (lg_sl ([.ref h_x, .ref (ad kd), .long vl, .int so]) ++ List.replicate (6 - (lg_sl ([.ref h_x, .ref (ad kd), .long vl, .int so])).length) Slot.unset).toArray = ls at hl ⊢
  have hl : lv_has ls 6 [(0, .ref h_x), (1, .ref (ad kd)), (2, .long vl), (4, .int so)] := hl
  obtain ⟨hx, hb, hr, hml, hown, hts, hlocks, hK, hZ, hA⟩ := id C0
  generalize s.heap = H at hw ⊢
  unfold f_DP_addArgument at hf
  refine lv_aload_n hx hb d_DP_addArgument_0 rfl (lv_at hl 0 rfl) ?_
  refine va_get (D := (dC, dI)) (ci := 5) (v := .int x_argumentCount) (C := "DirectivePrinter") (T := T_DP) (N := 10) hx hb hts (mm_up i_DP) hown hK hw.1 0 rfl rfl 5 (by decide) (hts _ (List.mem_cons_of_mem _ q_212)) (fun _ h9 => h9) rfl d_DP_addArgument_1 ?_
  refine lv_if_lt (tgt := 19) hx hb d_DP_addArgument_4 (by decide) (fun hc => ?_) (fun hc => ?_)
  · replace hf := mm_ip hc hf
    refine lv_iconst (v := (-1 : Int32)) hx hb d_DP_addArgument_19 (by decide) ?_
    obtain rfl := Option.some.inj hf
    exact mm_iret hx hb hr hlocks hK (mm_wsubT hw [0, 1] (by decide) rfl) rfl d_DP_addArgument_20
  · replace hf := mm_in hc hf
    refine lv_aload_n hx hb d_DP_addArgument_7 rfl (lv_at hl 0 rfl) ?_
    refine va_get (D := (dC, dI)) (ci := 5) (v := .int x_argumentCount) (C := "DirectivePrinter") (T := T_DP) (N := 10) hx hb hts (mm_up i_DP) hown hK hw.1 0 rfl rfl 5 (by decide) (hts _ (List.mem_cons_of_mem _ q_212)) (fun _ h9 => h9) rfl d_DP_addArgument_8 ?_
    refine lv_aload_n hx hb d_DP_addArgument_11 rfl (lv_at hl 0 rfl) ?_
    refine va_get (D := (dC, dI)) (ci := 5) (v := .ref h_x_arguments) (C := "DirectivePrinter") (T := T_DP) (N := 10) hx hb hts (mm_up i_DP) hown hK hw.1 0 rfl rfl 2 (by decide) (hts _ (List.mem_cons_of_mem _ q_209)) (fun _ h9 => h9) rfl d_DP_addArgument_12 ?_
    refine va_alen hx hb hK hw.1 1 3 rfl rfl (v := nI (9)) rfl d_DP_addArgument_15 ?_
    refine lv_icmp_lt (tgt := 21) hx hb d_DP_addArgument_16 (by decide) (fun hc => ?_) (fun hc => ?_)
    · replace hf := mm_ip hc hf
      refine lv_aload_n hx hb d_DP_addArgument_21 rfl (lv_at hl 0 rfl) ?_
      refine va_get (D := (dC, dI)) (ci := 5) (v := .ref h_x_arguments) (C := "DirectivePrinter") (T := T_DP) (N := 10) hx hb hts (mm_up i_DP) hown hK hw.1 0 rfl rfl 2 (by decide) (hts _ (List.mem_cons_of_mem _ q_209)) (fun _ h9 => h9) rfl d_DP_addArgument_22 ?_
      refine lv_aload_n hx hb d_DP_addArgument_25 rfl (lv_at hl 0 rfl) ?_
      refine va_get (D := (dC, dI)) (ci := 5) (v := .int x_argumentCount) (C := "DirectivePrinter") (T := T_DP) (N := 10) hx hb hts (mm_up i_DP) hown hK hw.1 0 rfl rfl 5 (by decide) (hts _ (List.mem_cons_of_mem _ q_212)) (fun _ h9 => h9) rfl d_DP_addArgument_26 ?_
      obtain ⟨hz, hf⟩ := mm_grd hf
      have hj_1 : x_argumentCount.toNatClampNeg < 9 := Nat.lt_of_not_le (fun q => hz (Or.inr q))
      refine va_aldq hx hb hK hw.1 1 3 rfl rfl hz d_DP_addArgument_29 ?_
      refine W.eq (g2 := F0 m 30 ls [.ref (pA x_argumentCount.toNatClampNeg)]) rfl ?_
      refine lv_astore (lv' := [(5, .ref (pA x_argumentCount.toNatClampNeg)), (0, .ref h_x), (1, .ref (ad kd)), (2, .long vl), (4, .int so)]) hx hb d_DP_addArgument_30 hl (by decide) rfl (fun ls hl => ?_)
      refine lv_aload hx hb d_DP_addArgument_32 (lv_at hl 0 rfl) ?_
      refine lv_ifnonnull (tgt := 39) hx hb d_DP_addArgument_34 (by decide) ?_
      refine lv_aload hx hb d_DP_addArgument_39 (lv_at hl 0 rfl) ?_
      refine lv_aload_n hx hb d_DP_addArgument_41 rfl (lv_at hl 2 rfl) ?_
      have hw := ap_in hj_1 hw
      have hw : mm_w (dC, dI) vwC A s ([(h_x, .inr (5, [.ref h_x_format, .ref h_x_paper, .ref h_x_arguments, .ref h_x_directive, .ref h_x_composer, .int x_argumentCount, .int x_lastFault, .int x_lastPlace, .int x_unnumbered, .int x_previousArgument])), (h_x_arguments, .inl (cQ, 9, .inr (.inr (.inr (.inr (fun q => some (pA q))))))), ((pA x_argumentCount.toNatClampNeg), .inr (3, [.ref (ad (x_kind x_argumentCount.toNatClampNeg)), .long (x_value x_argumentCount.toNatClampNeg), .int (x_sz x_argumentCount.toNatClampNeg), .ref (pR x_argumentCount.toNatClampNeg)])), ((pR x_argumentCount.toNatClampNeg), .inr (0, [.ref (pK x_argumentCount.toNatClampNeg), .int (x_tlen x_argumentCount.toNatClampNeg)])), ((pK x_argumentCount.toNatClampNeg), .inl (cC, 64, .inl (x_tkept x_argumentCount.toNatClampNeg)))] ++ abut pA pR pK ad cC x_kind x_value x_sz x_tlen x_tkept x_argumentCount.toNatClampNeg) H _ := hw
      refine va_putN (D := (dC, dI)) (ci := 3) (v := .ref (ad kd)) (ty := (.object "DirectivePrinter$Kind")) (C := "DirectivePrinter$Argument") (T := T_Argument) (N := 4) hx hb hts (mm_up i_Argument) t_Argument t_Argument_ok n_Argument hown hK hw.1 hw.2.1 hw.2.2 2 rfl rfl 0 (by decide) (va_Nw.use rfl ((Zo.2 _ _ _ hZ).1 _ (List.mem_of_getElem? (i := 1) rfl))) (fun _ h9 => h9) rfl (by decide +kernel) rfl rfl (Nat.le_of_ble_eq_true rfl) d_DP_addArgument_42 (fun H locs hP hD hS => ?_)
      have hw : mm_w (dC, dI) vwC A s ([(h_x, .inr (5, [.ref h_x_format, .ref h_x_paper, .ref h_x_arguments, .ref h_x_directive, .ref h_x_composer, .int x_argumentCount, .int x_lastFault, .int x_lastPlace, .int x_unnumbered, .int x_previousArgument])), (h_x_arguments, .inl (cQ, 9, .inr (.inr (.inr (.inr (fun q => some (pA q))))))), ((pA x_argumentCount.toNatClampNeg), .inr (3, [.ref (ad kd), .long (x_value x_argumentCount.toNatClampNeg), .int (x_sz x_argumentCount.toNatClampNeg), .ref (pR x_argumentCount.toNatClampNeg)])), ((pR x_argumentCount.toNatClampNeg), .inr (0, [.ref (pK x_argumentCount.toNatClampNeg), .int (x_tlen x_argumentCount.toNatClampNeg)])), ((pK x_argumentCount.toNatClampNeg), .inl (cC, 64, .inl (x_tkept x_argumentCount.toNatClampNeg)))] ++ abut pA pR pK ad cC x_kind x_value x_sz x_tlen x_tkept x_argumentCount.toNatClampNeg) H locs := ⟨hP, hD, hS⟩
      refine lv_aload hx hb d_DP_addArgument_45 (lv_at hl 0 rfl) ?_
      refine lv_lload_n hx hb d_DP_addArgument_47 rfl (lv_at hl 3 rfl) ?_
      refine va_putN (D := (dC, dI)) (ci := 3) (v := .long vl) (ty := .long) (C := "DirectivePrinter$Argument") (T := T_Argument) (N := 4) hx hb hts (mm_up i_Argument) t_Argument t_Argument_ok n_Argument hown hK hw.1 hw.2.1 hw.2.2 2 rfl rfl 1 (by decide) (va_Nw.use rfl ((Zo.2 _ _ _ hZ).1 _ (List.mem_of_getElem? (i := 3) rfl))) (fun _ h9 => h9) rfl (by decide +kernel) rfl rfl (Nat.le_of_ble_eq_true rfl) d_DP_addArgument_48 (fun H locs hP hD hS => ?_)
      have hw : mm_w (dC, dI) vwC A s ([(h_x, .inr (5, [.ref h_x_format, .ref h_x_paper, .ref h_x_arguments, .ref h_x_directive, .ref h_x_composer, .int x_argumentCount, .int x_lastFault, .int x_lastPlace, .int x_unnumbered, .int x_previousArgument])), (h_x_arguments, .inl (cQ, 9, .inr (.inr (.inr (.inr (fun q => some (pA q))))))), ((pA x_argumentCount.toNatClampNeg), .inr (3, [.ref (ad kd), .long vl, .int (x_sz x_argumentCount.toNatClampNeg), .ref (pR x_argumentCount.toNatClampNeg)])), ((pR x_argumentCount.toNatClampNeg), .inr (0, [.ref (pK x_argumentCount.toNatClampNeg), .int (x_tlen x_argumentCount.toNatClampNeg)])), ((pK x_argumentCount.toNatClampNeg), .inl (cC, 64, .inl (x_tkept x_argumentCount.toNatClampNeg)))] ++ abut pA pR pK ad cC x_kind x_value x_sz x_tlen x_tkept x_argumentCount.toNatClampNeg) H locs := ⟨hP, hD, hS⟩
      refine lv_aload hx hb d_DP_addArgument_51 (lv_at hl 0 rfl) ?_
      refine lv_iload hx hb d_DP_addArgument_53 (lv_at hl 4 rfl) ?_
      refine va_putN (D := (dC, dI)) (ci := 3) (v := .int so) (ty := .int) (C := "DirectivePrinter$Argument") (T := T_Argument) (N := 4) hx hb hts (mm_up i_Argument) t_Argument t_Argument_ok n_Argument hown hK hw.1 hw.2.1 hw.2.2 2 rfl rfl 2 (by decide) (va_Nw.use rfl ((Zo.2 _ _ _ hZ).1 _ (List.mem_of_getElem? (i := 5) rfl))) (fun _ h9 => h9) rfl (by decide +kernel) rfl rfl (Nat.le_of_ble_eq_true rfl) d_DP_addArgument_55 (fun H locs hP hD hS => ?_)
      have hw : mm_w (dC, dI) vwC A s ([(h_x, .inr (5, [.ref h_x_format, .ref h_x_paper, .ref h_x_arguments, .ref h_x_directive, .ref h_x_composer, .int x_argumentCount, .int x_lastFault, .int x_lastPlace, .int x_unnumbered, .int x_previousArgument])), (h_x_arguments, .inl (cQ, 9, .inr (.inr (.inr (.inr (fun q => some (pA q))))))), ((pA x_argumentCount.toNatClampNeg), .inr (3, [.ref (ad kd), .long vl, .int so, .ref (pR x_argumentCount.toNatClampNeg)])), ((pR x_argumentCount.toNatClampNeg), .inr (0, [.ref (pK x_argumentCount.toNatClampNeg), .int (x_tlen x_argumentCount.toNatClampNeg)])), ((pK x_argumentCount.toNatClampNeg), .inl (cC, 64, .inl (x_tkept x_argumentCount.toNatClampNeg)))] ++ abut pA pR pK ad cC x_kind x_value x_sz x_tlen x_tkept x_argumentCount.toNatClampNeg) H locs := ⟨hP, hD, hS⟩
      refine lv_aload_n hx hb d_DP_addArgument_58 rfl (lv_at hl 1 rfl) ?_
      refine lv_dup hx hb d_DP_addArgument_59 rfl ?_
      refine va_get (D := (dC, dI)) (ci := 5) (v := .int x_argumentCount) (C := "DirectivePrinter") (T := T_DP) (N := 10) hx hb hts (mm_up i_DP) hown hK hw.1 0 rfl rfl 5 (by decide) (hts _ (List.mem_cons_of_mem _ q_212)) (fun _ h9 => h9) rfl d_DP_addArgument_60 ?_
      refine lv_iconst (v := (1 : Int32)) hx hb d_DP_addArgument_63 (by decide) ?_
      refine lv_iadd hx hb d_DP_addArgument_64 ?_
      refine va_put (D := (dC, dI)) (ci := 5) (v := .int (x_argumentCount + (1 : Int32))) (ty := .int) (C := "DirectivePrinter") (T := T_DP) (N := 10) hx hb hts (mm_up i_DP) t_DP t_DP_ok n_DP hown hK hw.1 hw.2.1 hw.2.2 0 rfl rfl 5 (by decide) (hts _ (List.mem_cons_of_mem _ q_212)) (fun _ h9 => h9) rfl (by decide +kernel) rfl rfl (Nat.le_of_ble_eq_true rfl) d_DP_addArgument_65 (fun H locs hP hD hS => ?_)
      have hw : mm_w (dC, dI) vwC A s ([(h_x, .inr (5, [.ref h_x_format, .ref h_x_paper, .ref h_x_arguments, .ref h_x_directive, .ref h_x_composer, .int (x_argumentCount + (1 : Int32)), .int x_lastFault, .int x_lastPlace, .int x_unnumbered, .int x_previousArgument])), (h_x_arguments, .inl (cQ, 9, .inr (.inr (.inr (.inr (fun q => some (pA q))))))), ((pA x_argumentCount.toNatClampNeg), .inr (3, [.ref (ad kd), .long vl, .int so, .ref (pR x_argumentCount.toNatClampNeg)])), ((pR x_argumentCount.toNatClampNeg), .inr (0, [.ref (pK x_argumentCount.toNatClampNeg), .int (x_tlen x_argumentCount.toNatClampNeg)])), ((pK x_argumentCount.toNatClampNeg), .inl (cC, 64, .inl (x_tkept x_argumentCount.toNatClampNeg)))] ++ abut pA pR pK ad cC x_kind x_value x_sz x_tlen x_tkept x_argumentCount.toNatClampNeg) H locs := ⟨hP, hD, hS⟩
      refine lv_aload_n hx hb d_DP_addArgument_68 rfl (lv_at hl 1 rfl) ?_
      refine va_get (D := (dC, dI)) (ci := 5) (v := .int (x_argumentCount + (1 : Int32))) (C := "DirectivePrinter") (T := T_DP) (N := 10) hx hb hts (mm_up i_DP) hown hK hw.1 0 rfl rfl 5 (by decide) (hts _ (List.mem_cons_of_mem _ q_212)) (fun _ h9 => h9) rfl d_DP_addArgument_69 ?_
      have hw := ap_out3 (X := [(h_x, .inr (5, [.ref h_x_format, .ref h_x_paper, .ref h_x_arguments, .ref h_x_directive, .ref h_x_composer, .int (x_argumentCount + (1 : Int32)), .int x_lastFault, .int x_lastPlace, .int x_unnumbered, .int x_previousArgument])), (h_x_arguments, .inl (cQ, 9, .inr (.inr (.inr (.inr (fun q => some (pA q)))))))]) hj_1 (mm_wsubT hw [0, 1, 2, 3, 4] (by decide) rfl)
      have hw : mm_w (dC, dI) vwC A s ([(h_x, .inr (5, [.ref h_x_format, .ref h_x_paper, .ref h_x_arguments, .ref h_x_directive, .ref h_x_composer, .int (x_argumentCount + (1 : Int32)), .int x_lastFault, .int x_lastPlace, .int x_unnumbered, .int x_previousArgument])), (h_x_arguments, .inl (cQ, 9, .inr (.inr (.inr (.inr (fun q => some (pA q)))))))] ++ apool pA pR pK ad cC (va_up x_kind x_argumentCount.toNatClampNeg kd) (va_up x_value x_argumentCount.toNatClampNeg vl) (va_up x_sz x_argumentCount.toNatClampNeg so) x_tlen x_tkept) H _ := hw
      obtain rfl := Option.some.inj hf
      exact mm_iret hx hb hr hlocks hK (mm_wsubT hw [0, 1] (by decide) rfl) rfl d_DP_addArgument_72
    · replace hf := mm_in hc hf
      refine lv_iconst (v := (-1 : Int32)) hx hb d_DP_addArgument_19 (by decide) ?_
      obtain rfl := Option.some.inj hf
      exact mm_iret hx hb hr hlocks hK (mm_wsubT hw [0, 1] (by decide) rfl) rfl d_DP_addArgument_20
/-! DirectivePrinter.argumentNumbered(I)LDirectivePrinter$Argument; -/
def f_DP_argumentNumbered (x_argumentCount : Int32) (nu : Int32) : Option (Option Nat) := (if nu < (1 : Int32) then some (none) else (if x_argumentCount < nu then some (none) else (if nu ≤ (nI (9)) then (if (nu - (1 : Int32)) < 0 ∨ 9 ≤ (nu - (1 : Int32)).toNatClampNeg then none else some (some ((nu - (1 : Int32)).toNatClampNeg))) else some (none))))
abbrev r_DP_argumentNumbered : Room := { frames := 0, cells := 0, slots := 0, locals := 0 }
set_option maxHeartbeats 4000000 in
set_option maxRecDepth 100000 in
theorem c_DP_argumentNumbered (l : Launch) {Z : (Nat → Prop) → State → Heap → Prop} {ad adK adV : Nat → Nat} (Zo : mm_Zx Z ad adK adV) (dC : Nat → ClassId) (dI : Nat → Nat → Nat) (cC cI cJ cQ : ClassId) (x_argumentCount : Int32) (x_lastFault : Int32) (x_lastPlace : Int32) (x_unnumbered : Int32) (x_previousArgument : Int32) (nu : Int32) (h_x h_x_arguments h_x_format h_x_paper h_x_directive h_x_composer : Nat) (pA pR pK : Nat → Nat) (sz : Nat) (out : Option Nat) (hf : f_DP_argumentNumbered x_argumentCount nu = some out) : Met l y_DP_argumentNumbered w_DP_argumentNumbered r_DP_argumentNumbered (mm_pre (dC, dI) vwC (tyl cC cI cJ cQ) Z [(h_x, .inr (5, [.ref h_x_format, .ref h_x_paper, .ref h_x_arguments, .ref h_x_directive, .ref h_x_composer, .int x_argumentCount, .int x_lastFault, .int x_lastPlace, .int x_unnumbered, .int x_previousArgument])), (h_x_arguments, .inl (cQ, 9, .inr (.inr (.inr (.inr (fun q => some (pA q)))))))] sz [.ref h_x, .int nu]) (mm_qq (dC, dI) vwC (tyl cC cI cJ cQ) (va_A [(h_x, .inr (5, [.ref h_x_format, .ref h_x_paper, .ref h_x_arguments, .ref h_x_directive, .ref h_x_composer, .int x_argumentCount, .int x_lastFault, .int x_lastPlace, .int x_unnumbered, .int x_previousArgument])), (h_x_arguments, .inl (cQ, 9, .inr (.inr (.inr (.inr (fun q => some (pA q)))))))] sz) [(h_x, .inr (5, [.ref h_x_format, .ref h_x_paper, .ref h_x_arguments, .ref h_x_directive, .ref h_x_composer, .int x_argumentCount, .int x_lastFault, .int x_lastPlace, .int x_unnumbered, .int x_previousArgument])), (h_x_arguments, .inl (cQ, 9, .inr (.inr (.inr (.inr (fun q => some (pA q)))))))] (Option.map pA out)) 0 0 (va_A [(h_x, .inr (5, [.ref h_x_format, .ref h_x_paper, .ref h_x_arguments, .ref h_x_directive, .ref h_x_composer, .int x_argumentCount, .int x_lastFault, .int x_lastPlace, .int x_unnumbered, .int x_previousArgument])), (h_x_arguments, .inl (cQ, 9, .inr (.inr (.inr (.inr (fun q => some (pA q)))))))] sz) := by
  refine mm_of (own := "DirectivePrinter") (cc := b_DP_argumentNumbered) (maxL := 2) (ret := (some (.object "DirectivePrinter$Argument"))) (by decide) rfl rfl ?_
  intro p e s m below meth c hsz C0 hw hname
  generalize (va_A [(h_x, .inr (5, [.ref h_x_format, .ref h_x_paper, .ref h_x_arguments, .ref h_x_directive, .ref h_x_composer, .int x_argumentCount, .int x_lastFault, .int x_lastPlace, .int x_unnumbered, .int x_previousArgument])), (h_x_arguments, .inl (cQ, 9, .inr (.inr (.inr (.inr (fun q => some (pA q)))))))] sz) = A at C0 hw ⊢
  have hl := lv_entry ([.ref h_x, .int nu]) (n := 2) (Nat.le_of_ble_eq_true rfl)
  rw [lg_entry_eq]
  generalize (lg_sl ([.ref h_x, .int nu]) ++ List.replicate (2 - (lg_sl ([.ref h_x, .int nu])).length) Slot.unset).toArray = ls at hl ⊢
  have hl : lv_has ls 2 [(0, .ref h_x), (1, .int nu)] := hl
  obtain ⟨hx, hb, hr, hml, hown, hts, hlocks, hK, hZ, hA⟩ := id C0
  generalize s.heap = H at hw ⊢
  unfold f_DP_argumentNumbered at hf
  refine lv_iload_n hx hb d_DP_argumentNumbered_0 rfl (lv_at hl 1 rfl) ?_
  refine lv_iconst (v := (1 : Int32)) hx hb d_DP_argumentNumbered_1 (by decide) ?_
  refine lv_icmp_lt (tgt := 22) hx hb d_DP_argumentNumbered_2 (by decide) (fun hc => ?_) (fun hc => ?_)
  · replace hf := mm_ip hc hf
    refine lv_null hx hb d_DP_argumentNumbered_22 ?_
    obtain rfl := Option.some.inj hf
    exact mm_aret hx hb hr hlocks hK (mm_wsub hw [0, 1] (by decide) rfl rfl) rfl d_DP_argumentNumbered_23
  · replace hf := mm_in hc hf
    refine lv_iload_n hx hb d_DP_argumentNumbered_5 rfl (lv_at hl 1 rfl) ?_
    refine lv_aload_n hx hb d_DP_argumentNumbered_6 rfl (lv_at hl 0 rfl) ?_
    refine va_get (D := (dC, dI)) (ci := 5) (v := .int x_argumentCount) (C := "DirectivePrinter") (T := T_DP) (N := 10) hx hb hts (mm_up i_DP) hown hK hw.1 0 rfl rfl 5 (by decide) (hts _ (List.mem_cons_of_mem _ q_212)) (fun _ h9 => h9) rfl d_DP_argumentNumbered_7 ?_
    refine lv_icmp_gt (tgt := 22) hx hb d_DP_argumentNumbered_10 (by decide) (fun hc => ?_) (fun hc => ?_)
    · replace hf := mm_ip hc hf
      refine lv_null hx hb d_DP_argumentNumbered_22 ?_
      obtain rfl := Option.some.inj hf
      exact mm_aret hx hb hr hlocks hK (mm_wsub hw [0, 1] (by decide) rfl rfl) rfl d_DP_argumentNumbered_23
    · replace hf := mm_in hc hf
      refine lv_iload_n hx hb d_DP_argumentNumbered_13 rfl (lv_at hl 1 rfl) ?_
      refine lv_aload_n hx hb d_DP_argumentNumbered_14 rfl (lv_at hl 0 rfl) ?_
      refine va_get (D := (dC, dI)) (ci := 5) (v := .ref h_x_arguments) (C := "DirectivePrinter") (T := T_DP) (N := 10) hx hb hts (mm_up i_DP) hown hK hw.1 0 rfl rfl 2 (by decide) (hts _ (List.mem_cons_of_mem _ q_209)) (fun _ h9 => h9) rfl d_DP_argumentNumbered_15 ?_
      refine va_alen hx hb hK hw.1 1 3 rfl rfl (v := nI (9)) rfl d_DP_argumentNumbered_18 ?_
      refine lv_icmp_le (tgt := 24) hx hb d_DP_argumentNumbered_19 (by decide) (fun hc => ?_) (fun hc => ?_)
      · replace hf := mm_ip hc hf
        refine lv_aload_n hx hb d_DP_argumentNumbered_24 rfl (lv_at hl 0 rfl) ?_
        refine va_get (D := (dC, dI)) (ci := 5) (v := .ref h_x_arguments) (C := "DirectivePrinter") (T := T_DP) (N := 10) hx hb hts (mm_up i_DP) hown hK hw.1 0 rfl rfl 2 (by decide) (hts _ (List.mem_cons_of_mem _ q_209)) (fun _ h9 => h9) rfl d_DP_argumentNumbered_25 ?_
        refine lv_iload_n hx hb d_DP_argumentNumbered_28 rfl (lv_at hl 1 rfl) ?_
        refine lv_iconst (v := (1 : Int32)) hx hb d_DP_argumentNumbered_29 (by decide) ?_
        refine lv_isub hx hb d_DP_argumentNumbered_30 ?_
        obtain ⟨hz, hf⟩ := mm_grd hf
        have hj_1 : (nu - (1 : Int32)).toNatClampNeg < 9 := Nat.lt_of_not_le (fun q => hz (Or.inr q))
        refine va_aldq hx hb hK hw.1 1 3 rfl rfl hz d_DP_argumentNumbered_31 ?_
        refine W.eq (g2 := F0 m 32 ls [.ref (pA (nu - (1 : Int32)).toNatClampNeg)]) rfl ?_
        obtain rfl := Option.some.inj hf
        exact mm_aret hx hb hr hlocks hK (mm_wsub hw [0, 1] (by decide) rfl rfl) rfl d_DP_argumentNumbered_32
      · replace hf := mm_in hc hf
        refine lv_null hx hb d_DP_argumentNumbered_22 ?_
        obtain rfl := Option.some.inj hf
        exact mm_aret hx hb hr hlocks hK (mm_wsub hw [0, 1] (by decide) rfl rfl) rfl d_DP_argumentNumbered_23
/-! DirectivePrinter.nothing()I -/
def f_DP_nothing (x_argumentCount : Int32) (x_kind : Nat → Nat) (x_value : Nat → Int64) (x_sz : Nat → Int32) : Option (Int32 × Int32 × (Nat → Nat) × (Nat → Int64) × (Nat → Int32)) := mm_b5 (f_DP_addArgument x_argumentCount (0) (0 : Int64) (0 : Int32) x_kind x_value x_sz) (fun r_1 o_2 o_3 o_4 o_5 => some (r_1, o_2, o_3, o_4, o_5))
abbrev r_DP_nothing : Room := { frames := 1, cells := 0, slots := 0, locals := 25 }
set_option maxHeartbeats 4000000 in
set_option maxRecDepth 100000 in
theorem c_DP_nothing (l : Launch) {Z : (Nat → Prop) → State → Heap → Prop} {ad adK adV : Nat → Nat} (Zo : mm_Zx Z ad adK adV) (dC : Nat → ClassId) (dI : Nat → Nat → Nat) (cC cI cJ cQ : ClassId) (x_argumentCount : Int32) (x_lastFault : Int32) (x_lastPlace : Int32) (x_unnumbered : Int32) (x_previousArgument : Int32) (x_kind : Nat → Nat) (x_value : Nat → Int64) (x_sz : Nat → Int32) (x_tlen : Nat → Int32) (x_tkept : Nat → Nat → Int32) (h_x h_x_arguments h_x_format h_x_paper h_x_directive h_x_composer : Nat) (pA pR pK : Nat → Nat) (sz : Nat) (out : Int32 × Int32 × (Nat → Nat) × (Nat → Int64) × (Nat → Int32)) (hf : f_DP_nothing x_argumentCount x_kind x_value x_sz = some out) : Met l y_DP_nothing w_DP_nothing r_DP_nothing (mm_pre (dC, dI) vwC (tyl cC cI cJ cQ) Z ([(h_x, .inr (5, [.ref h_x_format, .ref h_x_paper, .ref h_x_arguments, .ref h_x_directive, .ref h_x_composer, .int x_argumentCount, .int x_lastFault, .int x_lastPlace, .int x_unnumbered, .int x_previousArgument])), (h_x_arguments, .inl (cQ, 9, .inr (.inr (.inr (.inr (fun q => some (pA q)))))))] ++ apool pA pR pK ad cC x_kind x_value x_sz x_tlen x_tkept) sz [.ref h_x]) (mm_qi (dC, dI) vwC (tyl cC cI cJ cQ) (va_A ([(h_x, .inr (5, [.ref h_x_format, .ref h_x_paper, .ref h_x_arguments, .ref h_x_directive, .ref h_x_composer, .int x_argumentCount, .int x_lastFault, .int x_lastPlace, .int x_unnumbered, .int x_previousArgument])), (h_x_arguments, .inl (cQ, 9, .inr (.inr (.inr (.inr (fun q => some (pA q)))))))] ++ apool pA pR pK ad cC x_kind x_value x_sz x_tlen x_tkept) sz) ([(h_x, .inr (5, [.ref h_x_format, .ref h_x_paper, .ref h_x_arguments, .ref h_x_directive, .ref h_x_composer, .int out.2.1, .int x_lastFault, .int x_lastPlace, .int x_unnumbered, .int x_previousArgument])), (h_x_arguments, .inl (cQ, 9, .inr (.inr (.inr (.inr (fun q => some (pA q)))))))] ++ apool pA pR pK ad cC out.2.2.1 out.2.2.2.1 out.2.2.2.2 x_tlen x_tkept) out.1) 0 0 (va_A ([(h_x, .inr (5, [.ref h_x_format, .ref h_x_paper, .ref h_x_arguments, .ref h_x_directive, .ref h_x_composer, .int x_argumentCount, .int x_lastFault, .int x_lastPlace, .int x_unnumbered, .int x_previousArgument])), (h_x_arguments, .inl (cQ, 9, .inr (.inr (.inr (.inr (fun q => some (pA q)))))))] ++ apool pA pR pK ad cC x_kind x_value x_sz x_tlen x_tkept) sz) := by
  refine mm_of (own := "DirectivePrinter") (cc := b_DP_nothing) (maxL := 1) (ret := (some .int)) (by decide) rfl rfl ?_
  intro p e s m below meth c hsz C0 hw hname
  generalize (va_A ([(h_x, .inr (5, [.ref h_x_format, .ref h_x_paper, .ref h_x_arguments, .ref h_x_directive, .ref h_x_composer, .int x_argumentCount, .int x_lastFault, .int x_lastPlace, .int x_unnumbered, .int x_previousArgument])), (h_x_arguments, .inl (cQ, 9, .inr (.inr (.inr (.inr (fun q => some (pA q)))))))] ++ apool pA pR pK ad cC x_kind x_value x_sz x_tlen x_tkept) sz) = A at C0 hw ⊢
  have hl := lv_entry ([.ref h_x]) (n := 1) (Nat.le_of_ble_eq_true rfl)
  rw [lg_entry_eq]
  generalize (lg_sl ([.ref h_x]) ++ List.replicate (1 - (lg_sl ([.ref h_x])).length) Slot.unset).toArray = ls at hl ⊢
  have hl : lv_has ls 1 [(0, .ref h_x)] := hl
  obtain ⟨hx, hb, hr, hml, hown, hts, hlocks, hK, hZ, hA⟩ := id C0
  generalize s.heap = H at hw ⊢
  unfold f_DP_nothing at hf
  refine lv_aload_n hx hb d_DP_nothing_0 rfl (lv_at hl 0 rfl) ?_
  refine va_gets hx hb ((Zo.2 _ _ _ hZ).2.1.1 0 (by decide)).1 hw.2.2 hown (hts _ (List.mem_cons_of_mem _ q_258)) (fun _ h9 => h9) d_DP_nothing_1 ?_
  refine lv_lconst (v := (0 : Int64)) hx hb d_DP_nothing_4 (by decide) ?_
  refine lv_iconst (v := (0 : Int32)) hx hb d_DP_nothing_5 (by decide) ?_
  obtain ⟨r_1, o_2, o_3, o_4, o_5, hu, hf⟩ := mm_b5_ok hf
  refine mm_ciP (wr := []) (va_runV (As := [.ref (ad (0)), .long (0 : Int64), .int (0 : Int32)]) (rest := []) ⟨hx, hb, hml, hown, hts⟩ (c_DP_addArgument l Zo dC dI cC cI cJ cQ x_argumentCount x_lastFault x_lastPlace x_unnumbered x_previousArgument (0) (0 : Int64) (0 : Int32) x_kind x_value x_sz x_tlen x_tkept (by decide) h_x h_x_arguments h_x_format h_x_paper h_x_directive h_x_composer pA pR pK H.size (r_1, o_2, o_3, o_4, o_5) hu) (cwV 3 hts (mm_gV q_259 q_261 q_0 q_54 q_262) rfl rfl rfl (by decide +kernel) ⟨Nat.le_of_ble_eq_true rfl, Nat.le_of_ble_eq_true rfl⟩) (mm_pvP Zo.1 hK hw hZ hA [0, 1] (by decide) rfl (ci := 5) (q0 := 0) rfl rfl) rfl rfl hl.1 rfl (lv_room (Nat.le_of_ble_eq_true rfl)) d_DP_nothing_6 ⟨Nat.le_refl _, Nat.le_refl _⟩) hw hA [0, 1] [] rfl rfl (by decide) (by decide) (fun H locs hw => ?_)
  have hw : mm_w (dC, dI) vwC A s ([(h_x, .inr (5, [.ref h_x_format, .ref h_x_paper, .ref h_x_arguments, .ref h_x_directive, .ref h_x_composer, .int o_2, .int x_lastFault, .int x_lastPlace, .int x_unnumbered, .int x_previousArgument])), (h_x_arguments, .inl (cQ, 9, .inr (.inr (.inr (.inr (fun q => some (pA q)))))))] ++ apool pA pR pK ad cC o_3 o_4 o_5 x_tlen x_tkept) H locs := hw
  obtain rfl := Option.some.inj hf
  exact mm_iret hx hb hr hlocks hK (mm_wsubT hw [0, 1] (by decide) rfl) rfl d_DP_nothing_9
/-! DirectivePrinter.truth(Z)I -/
def f_DP_truth (x_argumentCount : Int32) (is : Int32) (x_kind : Nat → Nat) (x_value : Nat → Int64) (x_sz : Nat → Int32) : Option (Int32 × Int32 × (Nat → Nat) × (Nat → Int64) × (Nat → Int32)) := (if is = 0 then mm_b5 (f_DP_addArgument x_argumentCount (1) (0 : Int64) (0 : Int32) x_kind x_value x_sz) (fun r_1 o_2 o_3 o_4 o_5 => some (r_1, o_2, o_3, o_4, o_5)) else mm_b5 (f_DP_addArgument x_argumentCount (1) (1 : Int64) (0 : Int32) x_kind x_value x_sz) (fun r_6 o_7 o_8 o_9 o_10 => some (r_6, o_7, o_8, o_9, o_10)))
abbrev r_DP_truth : Room := { frames := 1, cells := 0, slots := 0, locals := 25 }
set_option maxHeartbeats 4000000 in
set_option maxRecDepth 100000 in
theorem c_DP_truth (l : Launch) {Z : (Nat → Prop) → State → Heap → Prop} {ad adK adV : Nat → Nat} (Zo : mm_Zx Z ad adK adV) (dC : Nat → ClassId) (dI : Nat → Nat → Nat) (cC cI cJ cQ : ClassId) (x_argumentCount : Int32) (x_lastFault : Int32) (x_lastPlace : Int32) (x_unnumbered : Int32) (x_previousArgument : Int32) (is : Int32) (x_kind : Nat → Nat) (x_value : Nat → Int64) (x_sz : Nat → Int32) (x_tlen : Nat → Int32) (x_tkept : Nat → Nat → Int32) (h_x h_x_arguments h_x_format h_x_paper h_x_directive h_x_composer : Nat) (pA pR pK : Nat → Nat) (sz : Nat) (out : Int32 × Int32 × (Nat → Nat) × (Nat → Int64) × (Nat → Int32)) (hf : f_DP_truth x_argumentCount is x_kind x_value x_sz = some out) : Met l y_DP_truth w_DP_truth r_DP_truth (mm_pre (dC, dI) vwC (tyl cC cI cJ cQ) Z ([(h_x, .inr (5, [.ref h_x_format, .ref h_x_paper, .ref h_x_arguments, .ref h_x_directive, .ref h_x_composer, .int x_argumentCount, .int x_lastFault, .int x_lastPlace, .int x_unnumbered, .int x_previousArgument])), (h_x_arguments, .inl (cQ, 9, .inr (.inr (.inr (.inr (fun q => some (pA q)))))))] ++ apool pA pR pK ad cC x_kind x_value x_sz x_tlen x_tkept) sz [.ref h_x, .int is]) (mm_qi (dC, dI) vwC (tyl cC cI cJ cQ) (va_A ([(h_x, .inr (5, [.ref h_x_format, .ref h_x_paper, .ref h_x_arguments, .ref h_x_directive, .ref h_x_composer, .int x_argumentCount, .int x_lastFault, .int x_lastPlace, .int x_unnumbered, .int x_previousArgument])), (h_x_arguments, .inl (cQ, 9, .inr (.inr (.inr (.inr (fun q => some (pA q)))))))] ++ apool pA pR pK ad cC x_kind x_value x_sz x_tlen x_tkept) sz) ([(h_x, .inr (5, [.ref h_x_format, .ref h_x_paper, .ref h_x_arguments, .ref h_x_directive, .ref h_x_composer, .int out.2.1, .int x_lastFault, .int x_lastPlace, .int x_unnumbered, .int x_previousArgument])), (h_x_arguments, .inl (cQ, 9, .inr (.inr (.inr (.inr (fun q => some (pA q)))))))] ++ apool pA pR pK ad cC out.2.2.1 out.2.2.2.1 out.2.2.2.2 x_tlen x_tkept) out.1) 0 0 (va_A ([(h_x, .inr (5, [.ref h_x_format, .ref h_x_paper, .ref h_x_arguments, .ref h_x_directive, .ref h_x_composer, .int x_argumentCount, .int x_lastFault, .int x_lastPlace, .int x_unnumbered, .int x_previousArgument])), (h_x_arguments, .inl (cQ, 9, .inr (.inr (.inr (.inr (fun q => some (pA q)))))))] ++ apool pA pR pK ad cC x_kind x_value x_sz x_tlen x_tkept) sz) := by
  refine mm_of (own := "DirectivePrinter") (cc := b_DP_truth) (maxL := 2) (ret := (some .int)) (by decide) rfl rfl ?_
  intro p e s m below meth c hsz C0 hw hname
  generalize (va_A ([(h_x, .inr (5, [.ref h_x_format, .ref h_x_paper, .ref h_x_arguments, .ref h_x_directive, .ref h_x_composer, .int x_argumentCount, .int x_lastFault, .int x_lastPlace, .int x_unnumbered, .int x_previousArgument])), (h_x_arguments, .inl (cQ, 9, .inr (.inr (.inr (.inr (fun q => some (pA q)))))))] ++ apool pA pR pK ad cC x_kind x_value x_sz x_tlen x_tkept) sz) = A at C0 hw ⊢
  have hl := lv_entry ([.ref h_x, .int is]) (n := 2) (Nat.le_of_ble_eq_true rfl)
  rw [lg_entry_eq]
  generalize (lg_sl ([.ref h_x, .int is]) ++ List.replicate (2 - (lg_sl ([.ref h_x, .int is])).length) Slot.unset).toArray = ls at hl ⊢
  have hl : lv_has ls 2 [(0, .ref h_x), (1, .int is)] := hl
  obtain ⟨hx, hb, hr, hml, hown, hts, hlocks, hK, hZ, hA⟩ := id C0
  generalize s.heap = H at hw ⊢
  unfold f_DP_truth at hf
  refine lv_aload_n hx hb d_DP_truth_0 rfl (lv_at hl 0 rfl) ?_
  refine va_gets hx hb ((Zo.2 _ _ _ hZ).2.1.1 1 (by decide)).1 hw.2.2 hown (hts _ (List.mem_cons_of_mem _ q_267)) (fun _ h9 => h9) d_DP_truth_1 ?_
  refine lv_iload_n hx hb d_DP_truth_4 rfl (lv_at hl 1 rfl) ?_
  refine lv_if_eq (tgt := 12) hx hb d_DP_truth_5 (by decide) (fun hc => ?_) (fun hc => ?_)
  · replace hf := mm_ip hc hf
    refine lv_lconst (v := (0 : Int64)) hx hb d_DP_truth_12 (by decide) ?_
    refine lv_iconst (v := (0 : Int32)) hx hb d_DP_truth_13 (by decide) ?_
    obtain ⟨r_1, o_2, o_3, o_4, o_5, hu, hf⟩ := mm_b5_ok hf
    refine mm_ciP (wr := []) (va_runV (As := [.ref (ad (1)), .long (0 : Int64), .int (0 : Int32)]) (rest := []) ⟨hx, hb, hml, hown, hts⟩ (c_DP_addArgument l Zo dC dI cC cI cJ cQ x_argumentCount x_lastFault x_lastPlace x_unnumbered x_previousArgument (1) (0 : Int64) (0 : Int32) x_kind x_value x_sz x_tlen x_tkept (by decide) h_x h_x_arguments h_x_format h_x_paper h_x_directive h_x_composer pA pR pK H.size (r_1, o_2, o_3, o_4, o_5) hu) (cwV 3 hts (mm_gV q_259 q_261 q_0 q_54 q_262) rfl rfl rfl (by decide +kernel) ⟨Nat.le_of_ble_eq_true rfl, Nat.le_of_ble_eq_true rfl⟩) (mm_pvP Zo.1 hK hw hZ hA [0, 1] (by decide) rfl (ci := 5) (q0 := 0) rfl rfl) rfl rfl hl.1 rfl (lv_room (Nat.le_of_ble_eq_true rfl)) d_DP_truth_14 ⟨Nat.le_refl _, Nat.le_refl _⟩) hw hA [0, 1] [] rfl rfl (by decide) (by decide) (fun H locs hw => ?_)
    have hw : mm_w (dC, dI) vwC A s ([(h_x, .inr (5, [.ref h_x_format, .ref h_x_paper, .ref h_x_arguments, .ref h_x_directive, .ref h_x_composer, .int o_2, .int x_lastFault, .int x_lastPlace, .int x_unnumbered, .int x_previousArgument])), (h_x_arguments, .inl (cQ, 9, .inr (.inr (.inr (.inr (fun q => some (pA q)))))))] ++ apool pA pR pK ad cC o_3 o_4 o_5 x_tlen x_tkept) H locs := hw
    obtain rfl := Option.some.inj hf
    exact mm_iret hx hb hr hlocks hK (mm_wsubT hw [0, 1] (by decide) rfl) rfl d_DP_truth_17
  · replace hf := mm_in hc hf
    refine lv_lconst (v := (1 : Int64)) hx hb d_DP_truth_8 (by decide) ?_
    refine lv_goto (tgt := 13) hx hb d_DP_truth_9 (by decide) ?_
    refine lv_iconst (v := (0 : Int32)) hx hb d_DP_truth_13 (by decide) ?_
    obtain ⟨r_6, o_7, o_8, o_9, o_10, hu, hf⟩ := mm_b5_ok hf
    refine mm_ciP (wr := []) (va_runV (As := [.ref (ad (1)), .long (1 : Int64), .int (0 : Int32)]) (rest := []) ⟨hx, hb, hml, hown, hts⟩ (c_DP_addArgument l Zo dC dI cC cI cJ cQ x_argumentCount x_lastFault x_lastPlace x_unnumbered x_previousArgument (1) (1 : Int64) (0 : Int32) x_kind x_value x_sz x_tlen x_tkept (by decide) h_x h_x_arguments h_x_format h_x_paper h_x_directive h_x_composer pA pR pK H.size (r_6, o_7, o_8, o_9, o_10) hu) (cwV 3 hts (mm_gV q_259 q_261 q_0 q_54 q_262) rfl rfl rfl (by decide +kernel) ⟨Nat.le_of_ble_eq_true rfl, Nat.le_of_ble_eq_true rfl⟩) (mm_pvP Zo.1 hK hw hZ hA [0, 1] (by decide) rfl (ci := 5) (q0 := 0) rfl rfl) rfl rfl hl.1 rfl (lv_room (Nat.le_of_ble_eq_true rfl)) d_DP_truth_14 ⟨Nat.le_refl _, Nat.le_refl _⟩) hw hA [0, 1] [] rfl rfl (by decide) (by decide) (fun H locs hw => ?_)
    have hw : mm_w (dC, dI) vwC A s ([(h_x, .inr (5, [.ref h_x_format, .ref h_x_paper, .ref h_x_arguments, .ref h_x_directive, .ref h_x_composer, .int o_7, .int x_lastFault, .int x_lastPlace, .int x_unnumbered, .int x_previousArgument])), (h_x_arguments, .inl (cQ, 9, .inr (.inr (.inr (.inr (fun q => some (pA q)))))))] ++ apool pA pR pK ad cC o_8 o_9 o_10 x_tlen x_tkept) H locs := hw
    obtain rfl := Option.some.inj hf
    exact mm_iret hx hb hr hlocks hK (mm_wsubT hw [0, 1] (by decide) rfl) rfl d_DP_truth_17
/-! DirectivePrinter.symbol(I)I -/
def f_DP_symbol (x_argumentCount : Int32) (cd : Int32) (x_kind : Nat → Nat) (x_value : Nat → Int64) (x_sz : Nat → Int32) : Option (Int32 × Int32 × (Nat → Nat) × (Nat → Int64) × (Nat → Int32)) := (if cd < 0 then none else (if cd ≤ (255 : Int32) then mm_b5 (f_DP_addArgument x_argumentCount (2) cd.toInt64 (0 : Int32) x_kind x_value x_sz) (fun r_1 o_2 o_3 o_4 o_5 => some (r_1, o_2, o_3, o_4, o_5)) else none))
abbrev r_DP_symbol : Room := { frames := 1, cells := 0, slots := 0, locals := 25 }
set_option maxHeartbeats 4000000 in
set_option maxRecDepth 100000 in
theorem c_DP_symbol (l : Launch) {Z : (Nat → Prop) → State → Heap → Prop} {ad adK adV : Nat → Nat} (Zo : mm_Zx Z ad adK adV) (dC : Nat → ClassId) (dI : Nat → Nat → Nat) (cC cI cJ cQ : ClassId) (x_argumentCount : Int32) (x_lastFault : Int32) (x_lastPlace : Int32) (x_unnumbered : Int32) (x_previousArgument : Int32) (cd : Int32) (x_kind : Nat → Nat) (x_value : Nat → Int64) (x_sz : Nat → Int32) (x_tlen : Nat → Int32) (x_tkept : Nat → Nat → Int32) (h_x h_x_arguments h_x_format h_x_paper h_x_directive h_x_composer : Nat) (pA pR pK : Nat → Nat) (sz : Nat) (out : Int32 × Int32 × (Nat → Nat) × (Nat → Int64) × (Nat → Int32)) (hf : f_DP_symbol x_argumentCount cd x_kind x_value x_sz = some out) : Met l y_DP_symbol w_DP_symbol r_DP_symbol (mm_pre (dC, dI) vwC (tyl cC cI cJ cQ) Z ([(h_x, .inr (5, [.ref h_x_format, .ref h_x_paper, .ref h_x_arguments, .ref h_x_directive, .ref h_x_composer, .int x_argumentCount, .int x_lastFault, .int x_lastPlace, .int x_unnumbered, .int x_previousArgument])), (h_x_arguments, .inl (cQ, 9, .inr (.inr (.inr (.inr (fun q => some (pA q)))))))] ++ apool pA pR pK ad cC x_kind x_value x_sz x_tlen x_tkept) sz [.ref h_x, .int cd]) (mm_qi (dC, dI) vwC (tyl cC cI cJ cQ) (va_A ([(h_x, .inr (5, [.ref h_x_format, .ref h_x_paper, .ref h_x_arguments, .ref h_x_directive, .ref h_x_composer, .int x_argumentCount, .int x_lastFault, .int x_lastPlace, .int x_unnumbered, .int x_previousArgument])), (h_x_arguments, .inl (cQ, 9, .inr (.inr (.inr (.inr (fun q => some (pA q)))))))] ++ apool pA pR pK ad cC x_kind x_value x_sz x_tlen x_tkept) sz) ([(h_x, .inr (5, [.ref h_x_format, .ref h_x_paper, .ref h_x_arguments, .ref h_x_directive, .ref h_x_composer, .int out.2.1, .int x_lastFault, .int x_lastPlace, .int x_unnumbered, .int x_previousArgument])), (h_x_arguments, .inl (cQ, 9, .inr (.inr (.inr (.inr (fun q => some (pA q)))))))] ++ apool pA pR pK ad cC out.2.2.1 out.2.2.2.1 out.2.2.2.2 x_tlen x_tkept) out.1) 0 0 (va_A ([(h_x, .inr (5, [.ref h_x_format, .ref h_x_paper, .ref h_x_arguments, .ref h_x_directive, .ref h_x_composer, .int x_argumentCount, .int x_lastFault, .int x_lastPlace, .int x_unnumbered, .int x_previousArgument])), (h_x_arguments, .inl (cQ, 9, .inr (.inr (.inr (.inr (fun q => some (pA q)))))))] ++ apool pA pR pK ad cC x_kind x_value x_sz x_tlen x_tkept) sz) := by
  refine mm_of (own := "DirectivePrinter") (cc := b_DP_symbol) (maxL := 2) (ret := (some .int)) (by decide) rfl rfl ?_
  intro p e s m below meth c hsz C0 hw hname
  generalize (va_A ([(h_x, .inr (5, [.ref h_x_format, .ref h_x_paper, .ref h_x_arguments, .ref h_x_directive, .ref h_x_composer, .int x_argumentCount, .int x_lastFault, .int x_lastPlace, .int x_unnumbered, .int x_previousArgument])), (h_x_arguments, .inl (cQ, 9, .inr (.inr (.inr (.inr (fun q => some (pA q)))))))] ++ apool pA pR pK ad cC x_kind x_value x_sz x_tlen x_tkept) sz) = A at C0 hw ⊢
  have hl := lv_entry ([.ref h_x, .int cd]) (n := 2) (Nat.le_of_ble_eq_true rfl)
  rw [lg_entry_eq]
  generalize (lg_sl ([.ref h_x, .int cd]) ++ List.replicate (2 - (lg_sl ([.ref h_x, .int cd])).length) Slot.unset).toArray = ls at hl ⊢
  have hl : lv_has ls 2 [(0, .ref h_x), (1, .int cd)] := hl
  obtain ⟨hx, hb, hr, hml, hown, hts, hlocks, hK, hZ, hA⟩ := id C0
  generalize s.heap = H at hw ⊢
  unfold f_DP_symbol at hf
  refine lv_iload_n hx hb d_DP_symbol_0 rfl (lv_at hl 1 rfl) ?_
  refine lv_if_lt (tgt := 11) hx hb d_DP_symbol_1 (by decide) (fun hc => ?_) (fun hc => ?_)
  · replace hf := mm_ip hc hf
    cases hf
  · replace hf := mm_in hc hf
    refine lv_iload_n hx hb d_DP_symbol_4 rfl (lv_at hl 1 rfl) ?_
    refine lv_sipush (v := (255 : Int32)) hx hb d_DP_symbol_5 (by decide) ?_
    refine lv_icmp_le (tgt := 21) hx hb d_DP_symbol_8 (by decide) (fun hc => ?_) (fun hc => ?_)
    · replace hf := mm_ip hc hf
      refine lv_aload_n hx hb d_DP_symbol_21 rfl (lv_at hl 0 rfl) ?_
      refine va_gets hx hb ((Zo.2 _ _ _ hZ).2.1.1 2 (by decide)).1 hw.2.2 hown (hts _ (List.mem_cons_of_mem _ q_733)) (fun _ h9 => h9) d_DP_symbol_22 ?_
      refine lv_iload_n hx hb d_DP_symbol_25 rfl (lv_at hl 1 rfl) ?_
      refine lv_i2l (v := cd.toInt64) hx hb d_DP_symbol_26 rfl ?_
      refine lv_iconst (v := (0 : Int32)) hx hb d_DP_symbol_27 (by decide) ?_
      obtain ⟨r_1, o_2, o_3, o_4, o_5, hu, hf⟩ := mm_b5_ok hf
      refine mm_ciP (wr := []) (va_runV (As := [.ref (ad (2)), .long cd.toInt64, .int (0 : Int32)]) (rest := []) ⟨hx, hb, hml, hown, hts⟩ (c_DP_addArgument l Zo dC dI cC cI cJ cQ x_argumentCount x_lastFault x_lastPlace x_unnumbered x_previousArgument (2) cd.toInt64 (0 : Int32) x_kind x_value x_sz x_tlen x_tkept (by decide) h_x h_x_arguments h_x_format h_x_paper h_x_directive h_x_composer pA pR pK H.size (r_1, o_2, o_3, o_4, o_5) hu) (cwV 3 hts (mm_gV q_259 q_261 q_0 q_54 q_262) rfl rfl rfl (by decide +kernel) ⟨Nat.le_of_ble_eq_true rfl, Nat.le_of_ble_eq_true rfl⟩) (mm_pvP Zo.1 hK hw hZ hA [0, 1] (by decide) rfl (ci := 5) (q0 := 0) rfl rfl) rfl rfl hl.1 rfl (lv_room (Nat.le_of_ble_eq_true rfl)) d_DP_symbol_28 ⟨Nat.le_refl _, Nat.le_refl _⟩) hw hA [0, 1] [] rfl rfl (by decide) (by decide) (fun H locs hw => ?_)
      have hw : mm_w (dC, dI) vwC A s ([(h_x, .inr (5, [.ref h_x_format, .ref h_x_paper, .ref h_x_arguments, .ref h_x_directive, .ref h_x_composer, .int o_2, .int x_lastFault, .int x_lastPlace, .int x_unnumbered, .int x_previousArgument])), (h_x_arguments, .inl (cQ, 9, .inr (.inr (.inr (.inr (fun q => some (pA q)))))))] ++ apool pA pR pK ad cC o_3 o_4 o_5 x_tlen x_tkept) H locs := hw
      obtain rfl := Option.some.inj hf
      exact mm_iret hx hb hr hlocks hK (mm_wsubT hw [0, 1] (by decide) rfl) rfl d_DP_symbol_31
    · replace hf := mm_in hc hf
      cases hf
/-! DirectivePrinter.whole(IJ)I -/
def f_DP_whole_34 (bits : Int32) (va : Int64) (x_argumentCount : Int32) (x_kind : Nat → Nat) (x_value : Nat → Int64) (x_sz : Nat → Int32) : Option (Int32 × Int32 × (Nat → Nat) × (Nat → Int64) × (Nat → Int32)) := mm_b5 (f_DP_addArgument x_argumentCount (3) (mm_lr (mm_ll va ((64 : Int32) - bits)) ((64 : Int32) - bits)) bits x_kind x_value x_sz) (fun r_1 o_2 o_3 o_4 o_5 => some (r_1, o_2, o_3, o_4, o_5))
def f_DP_whole (x_argumentCount : Int32) (bits : Int32) (va : Int64) (x_kind : Nat → Nat) (x_value : Nat → Int64) (x_sz : Nat → Int32) : Option (Int32 × Int32 × (Nat → Nat) × (Nat → Int64) × (Nat → Int32)) := (if bits = (8 : Int32) then f_DP_whole_34 bits va x_argumentCount x_kind x_value x_sz else (if bits = (16 : Int32) then f_DP_whole_34 bits va x_argumentCount x_kind x_value x_sz else (if bits = (32 : Int32) then f_DP_whole_34 bits va x_argumentCount x_kind x_value x_sz else (if bits = (64 : Int32) then f_DP_whole_34 bits va x_argumentCount x_kind x_value x_sz else none))))
abbrev r_DP_whole : Room := { frames := 1, cells := 0, slots := 0, locals := 25 }
set_option maxHeartbeats 4000000 in
set_option maxRecDepth 100000 in
theorem b_DP_whole_34 {h_x h_x_arguments h_x_format h_x_paper h_x_directive h_x_composer : Nat} {pA pR pK : Nat → Nat} (Zo : mm_Zx Z ad adK adV) (C0 : mm_cx (dC, dI) vwC (tyl cC cI cJ cQ) Z p s m args meth c b_DP_whole 5 (some .int) "DirectivePrinter" w_DP_whole A) (x_lastFault : Int32) (x_lastPlace : Int32) (x_unnumbered : Int32) (x_previousArgument : Int32) (bits : Int32) (va : Int64) (x_tlen : Nat → Int32) (x_tkept : Nat → Nat → Int32) (out : Int32 × Int32 × (Nat → Nat) × (Nat → Int64) × (Nat → Int32)) : ∀ (x_argumentCount : Int32) (x_kind : Nat → Nat) (x_value : Nat → Int64) (x_sz : Nat → Int32), f_DP_whole_34 bits va x_argumentCount x_kind x_value x_sz = some out → ∀ (H : Heap) (locs : List Loc), mm_w (dC, dI) vwC A s ([(h_x, .inr (5, [.ref h_x_format, .ref h_x_paper, .ref h_x_arguments, .ref h_x_directive, .ref h_x_composer, .int x_argumentCount, .int x_lastFault, .int x_lastPlace, .int x_unnumbered, .int x_previousArgument])), (h_x_arguments, .inl (cQ, 9, .inr (.inr (.inr (.inr (fun q => some (pA q)))))))] ++ apool pA pR pK ad cC x_kind x_value x_sz x_tlen x_tkept) H locs → ∀ (ls : Array Slot), lv_has ls 5 [(0, .ref h_x), (1, .int bits), (2, .long va)] → W p l e r_DP_whole s m args below meth c H locs 0 0 (MQ below (mm_qi (dC, dI) vwC (tyl cC cI cJ cQ) A ([(h_x, .inr (5, [.ref h_x_format, .ref h_x_paper, .ref h_x_arguments, .ref h_x_directive, .ref h_x_composer, .int out.2.1, .int x_lastFault, .int x_lastPlace, .int x_unnumbered, .int x_previousArgument])), (h_x_arguments, .inl (cQ, 9, .inr (.inr (.inr (.inr (fun q => some (pA q)))))))] ++ apool pA pR pK ad cC out.2.2.1 out.2.2.2.1 out.2.2.2.2 x_tlen x_tkept) out.1) args s 0 0 A) (F0 m 34 ls []) := by
  obtain ⟨hx, hb, hr, hml, hown, hts, hlocks, hK, hZ, hA⟩ := id C0
  intro x_argumentCount x_kind x_value x_sz hf H locs hw ls hl
  unfold f_DP_whole_34 at hf
  refine lv_bipush (v := (64 : Int32)) hx hb d_DP_whole_34 (by decide) ?_
  refine lv_iload_n hx hb d_DP_whole_36 rfl (lv_at hl 1 rfl) ?_
  refine lv_isub hx hb d_DP_whole_37 ?_
  refine lv_istore (lv' := [(4, .int ((64 : Int32) - bits)), (0, .ref h_x), (1, .int bits), (2, .long va)]) hx hb d_DP_whole_38 hl (by decide) rfl (fun ls hl => ?_)
  refine lv_aload_n hx hb d_DP_whole_40 rfl (lv_at hl 1 rfl) ?_
  refine va_gets hx hb ((Zo.2 _ _ _ hZ).2.1.1 3 (by decide)).1 hw.2.2 hown (hts _ (List.mem_cons_of_mem _ q_742)) (fun _ h9 => h9) d_DP_whole_41 ?_
  refine lv_lload_n hx hb d_DP_whole_44 rfl (lv_at hl 3 rfl) ?_
  refine lv_iload hx hb d_DP_whole_45 (lv_at hl 0 rfl) ?_
  refine lv_lshl (v := mm_ll va ((64 : Int32) - bits)) hx hb d_DP_whole_47 rfl ?_
  refine lv_iload hx hb d_DP_whole_48 (lv_at hl 0 rfl) ?_
  refine lv_lshr (v := mm_lr (mm_ll va ((64 : Int32) - bits)) ((64 : Int32) - bits)) hx hb d_DP_whole_50 rfl ?_
  refine lv_iload_n hx hb d_DP_whole_51 rfl (lv_at hl 2 rfl) ?_
  obtain ⟨r_1, o_2, o_3, o_4, o_5, hu, hf⟩ := mm_b5_ok hf
  refine mm_ciP (wr := []) (va_runV (As := [.ref (ad (3)), .long (mm_lr (mm_ll va ((64 : Int32) - bits)) ((64 : Int32) - bits)), .int bits]) (rest := []) ⟨hx, hb, hml, hown, hts⟩ (c_DP_addArgument l Zo dC dI cC cI cJ cQ x_argumentCount x_lastFault x_lastPlace x_unnumbered x_previousArgument (3) (mm_lr (mm_ll va ((64 : Int32) - bits)) ((64 : Int32) - bits)) bits x_kind x_value x_sz x_tlen x_tkept (by decide) h_x h_x_arguments h_x_format h_x_paper h_x_directive h_x_composer pA pR pK H.size (r_1, o_2, o_3, o_4, o_5) hu) (cwV 3 hts (mm_gV q_259 q_261 q_0 q_54 q_262) rfl rfl rfl (by decide +kernel) ⟨Nat.le_of_ble_eq_true rfl, Nat.le_of_ble_eq_true rfl⟩) (mm_pvP Zo.1 hK hw hZ hA [0, 1] (by decide) rfl (ci := 5) (q0 := 0) rfl rfl) rfl rfl hl.1 rfl (lv_room (Nat.le_of_ble_eq_true rfl)) d_DP_whole_52 ⟨Nat.le_refl _, Nat.le_refl _⟩) hw hA [0, 1] [] rfl rfl (by decide) (by decide) (fun H locs hw => ?_)
  have hw : mm_w (dC, dI) vwC A s ([(h_x, .inr (5, [.ref h_x_format, .ref h_x_paper, .ref h_x_arguments, .ref h_x_directive, .ref h_x_composer, .int o_2, .int x_lastFault, .int x_lastPlace, .int x_unnumbered, .int x_previousArgument])), (h_x_arguments, .inl (cQ, 9, .inr (.inr (.inr (.inr (fun q => some (pA q)))))))] ++ apool pA pR pK ad cC o_3 o_4 o_5 x_tlen x_tkept) H locs := hw
  obtain rfl := Option.some.inj hf
  exact mm_iret hx hb hr hlocks hK (mm_wsubT hw [0, 1] (by decide) rfl) rfl d_DP_whole_55
set_option maxHeartbeats 4000000 in
set_option maxRecDepth 100000 in
theorem c_DP_whole (l : Launch) {Z : (Nat → Prop) → State → Heap → Prop} {ad adK adV : Nat → Nat} (Zo : mm_Zx Z ad adK adV) (dC : Nat → ClassId) (dI : Nat → Nat → Nat) (cC cI cJ cQ : ClassId) (x_argumentCount : Int32) (x_lastFault : Int32) (x_lastPlace : Int32) (x_unnumbered : Int32) (x_previousArgument : Int32) (bits : Int32) (va : Int64) (x_kind : Nat → Nat) (x_value : Nat → Int64) (x_sz : Nat → Int32) (x_tlen : Nat → Int32) (x_tkept : Nat → Nat → Int32) (h_x h_x_arguments h_x_format h_x_paper h_x_directive h_x_composer : Nat) (pA pR pK : Nat → Nat) (sz : Nat) (out : Int32 × Int32 × (Nat → Nat) × (Nat → Int64) × (Nat → Int32)) (hf : f_DP_whole x_argumentCount bits va x_kind x_value x_sz = some out) : Met l y_DP_whole w_DP_whole r_DP_whole (mm_pre (dC, dI) vwC (tyl cC cI cJ cQ) Z ([(h_x, .inr (5, [.ref h_x_format, .ref h_x_paper, .ref h_x_arguments, .ref h_x_directive, .ref h_x_composer, .int x_argumentCount, .int x_lastFault, .int x_lastPlace, .int x_unnumbered, .int x_previousArgument])), (h_x_arguments, .inl (cQ, 9, .inr (.inr (.inr (.inr (fun q => some (pA q)))))))] ++ apool pA pR pK ad cC x_kind x_value x_sz x_tlen x_tkept) sz [.ref h_x, .int bits, .long va]) (mm_qi (dC, dI) vwC (tyl cC cI cJ cQ) (va_A ([(h_x, .inr (5, [.ref h_x_format, .ref h_x_paper, .ref h_x_arguments, .ref h_x_directive, .ref h_x_composer, .int x_argumentCount, .int x_lastFault, .int x_lastPlace, .int x_unnumbered, .int x_previousArgument])), (h_x_arguments, .inl (cQ, 9, .inr (.inr (.inr (.inr (fun q => some (pA q)))))))] ++ apool pA pR pK ad cC x_kind x_value x_sz x_tlen x_tkept) sz) ([(h_x, .inr (5, [.ref h_x_format, .ref h_x_paper, .ref h_x_arguments, .ref h_x_directive, .ref h_x_composer, .int out.2.1, .int x_lastFault, .int x_lastPlace, .int x_unnumbered, .int x_previousArgument])), (h_x_arguments, .inl (cQ, 9, .inr (.inr (.inr (.inr (fun q => some (pA q)))))))] ++ apool pA pR pK ad cC out.2.2.1 out.2.2.2.1 out.2.2.2.2 x_tlen x_tkept) out.1) 0 0 (va_A ([(h_x, .inr (5, [.ref h_x_format, .ref h_x_paper, .ref h_x_arguments, .ref h_x_directive, .ref h_x_composer, .int x_argumentCount, .int x_lastFault, .int x_lastPlace, .int x_unnumbered, .int x_previousArgument])), (h_x_arguments, .inl (cQ, 9, .inr (.inr (.inr (.inr (fun q => some (pA q)))))))] ++ apool pA pR pK ad cC x_kind x_value x_sz x_tlen x_tkept) sz) := by
  refine mm_of (own := "DirectivePrinter") (cc := b_DP_whole) (maxL := 5) (ret := (some .int)) (by decide) rfl rfl ?_
  intro p e s m below meth c hsz C0 hw hname
  generalize (va_A ([(h_x, .inr (5, [.ref h_x_format, .ref h_x_paper, .ref h_x_arguments, .ref h_x_directive, .ref h_x_composer, .int x_argumentCount, .int x_lastFault, .int x_lastPlace, .int x_unnumbered, .int x_previousArgument])), (h_x_arguments, .inl (cQ, 9, .inr (.inr (.inr (.inr (fun q => some (pA q)))))))] ++ apool pA pR pK ad cC x_kind x_value x_sz x_tlen x_tkept) sz) = A at C0 hw ⊢
  have hl := lv_entry ([.ref h_x, .int bits, .long va]) (n := 5) (Nat.le_of_ble_eq_true rfl)
  rw [lg_entry_eq]
  generalize (lg_sl ([.ref h_x, .int bits, .long va]) ++ List.replicate (5 - (lg_sl ([.ref h_x, .int bits, .long va])).length) Slot.unset).toArray = ls at hl ⊢
  have hl : lv_has ls 5 [(0, .ref h_x), (1, .int bits), (2, .long va)] := hl
  obtain ⟨hx, hb, hr, hml, hown, hts, hlocks, hK, hZ, hA⟩ := id C0
  generalize s.heap = H at hw ⊢
  unfold f_DP_whole at hf
  refine lv_iload_n hx hb d_DP_whole_0 rfl (lv_at hl 1 rfl) ?_
  refine lv_bipush (v := (8 : Int32)) hx hb d_DP_whole_1 (by decide) ?_
  refine lv_icmp_eq (tgt := 34) hx hb d_DP_whole_3 (by decide) (fun hc => ?_) (fun hc => ?_)
  · replace hf := mm_ip hc hf
    exact b_DP_whole_34 Zo C0 x_lastFault x_lastPlace x_unnumbered x_previousArgument bits va x_tlen x_tkept  out x_argumentCount x_kind x_value x_sz hf _ _ hw _ hl
  · replace hf := mm_in hc hf
    refine lv_iload_n hx hb d_DP_whole_6 rfl (lv_at hl 1 rfl) ?_
    refine lv_bipush (v := (16 : Int32)) hx hb d_DP_whole_7 (by decide) ?_
    refine lv_icmp_eq (tgt := 34) hx hb d_DP_whole_9 (by decide) (fun hc => ?_) (fun hc => ?_)
    · replace hf := mm_ip hc hf
      exact b_DP_whole_34 Zo C0 x_lastFault x_lastPlace x_unnumbered x_previousArgument bits va x_tlen x_tkept  out x_argumentCount x_kind x_value x_sz hf _ _ hw _ hl
    · replace hf := mm_in hc hf
      refine lv_iload_n hx hb d_DP_whole_12 rfl (lv_at hl 1 rfl) ?_
      refine lv_bipush (v := (32 : Int32)) hx hb d_DP_whole_13 (by decide) ?_
      refine lv_icmp_eq (tgt := 34) hx hb d_DP_whole_15 (by decide) (fun hc => ?_) (fun hc => ?_)
      · replace hf := mm_ip hc hf
        exact b_DP_whole_34 Zo C0 x_lastFault x_lastPlace x_unnumbered x_previousArgument bits va x_tlen x_tkept  out x_argumentCount x_kind x_value x_sz hf _ _ hw _ hl
      · replace hf := mm_in hc hf
        refine lv_iload_n hx hb d_DP_whole_18 rfl (lv_at hl 1 rfl) ?_
        refine lv_bipush (v := (64 : Int32)) hx hb d_DP_whole_19 (by decide) ?_
        refine lv_icmp_eq (tgt := 34) hx hb d_DP_whole_21 (by decide) (fun hc => ?_) (fun hc => ?_)
        · replace hf := mm_ip hc hf
          exact b_DP_whole_34 Zo C0 x_lastFault x_lastPlace x_unnumbered x_previousArgument bits va x_tlen x_tkept  out x_argumentCount x_kind x_value x_sz hf _ _ hw _ hl
        · replace hf := mm_in hc hf
          cases hf
/-! DirectivePrinter.decimal(JI)I -/
def f_DP_decimal (x_argumentCount : Int32) (us : Int64) (sc : Int32) (x_kind : Nat → Nat) (x_value : Nat → Int64) (x_sz : Nat → Int32) : Option (Int32 × Int32 × (Nat → Nat) × (Nat → Int64) × (Nat → Int32)) := (if sc < 0 then none else (if sc ≤ (40 : Int32) then mm_b5 (f_DP_addArgument x_argumentCount (5) us sc x_kind x_value x_sz) (fun r_1 o_2 o_3 o_4 o_5 => some (r_1, o_2, o_3, o_4, o_5)) else none))
abbrev r_DP_decimal : Room := { frames := 1, cells := 0, slots := 0, locals := 25 }
set_option maxHeartbeats 4000000 in
set_option maxRecDepth 100000 in
theorem c_DP_decimal (l : Launch) {Z : (Nat → Prop) → State → Heap → Prop} {ad adK adV : Nat → Nat} (Zo : mm_Zx Z ad adK adV) (dC : Nat → ClassId) (dI : Nat → Nat → Nat) (cC cI cJ cQ : ClassId) (x_argumentCount : Int32) (x_lastFault : Int32) (x_lastPlace : Int32) (x_unnumbered : Int32) (x_previousArgument : Int32) (us : Int64) (sc : Int32) (x_kind : Nat → Nat) (x_value : Nat → Int64) (x_sz : Nat → Int32) (x_tlen : Nat → Int32) (x_tkept : Nat → Nat → Int32) (h_x h_x_arguments h_x_format h_x_paper h_x_directive h_x_composer : Nat) (pA pR pK : Nat → Nat) (sz : Nat) (out : Int32 × Int32 × (Nat → Nat) × (Nat → Int64) × (Nat → Int32)) (hf : f_DP_decimal x_argumentCount us sc x_kind x_value x_sz = some out) : Met l y_DP_decimal w_DP_decimal r_DP_decimal (mm_pre (dC, dI) vwC (tyl cC cI cJ cQ) Z ([(h_x, .inr (5, [.ref h_x_format, .ref h_x_paper, .ref h_x_arguments, .ref h_x_directive, .ref h_x_composer, .int x_argumentCount, .int x_lastFault, .int x_lastPlace, .int x_unnumbered, .int x_previousArgument])), (h_x_arguments, .inl (cQ, 9, .inr (.inr (.inr (.inr (fun q => some (pA q)))))))] ++ apool pA pR pK ad cC x_kind x_value x_sz x_tlen x_tkept) sz [.ref h_x, .long us, .int sc]) (mm_qi (dC, dI) vwC (tyl cC cI cJ cQ) (va_A ([(h_x, .inr (5, [.ref h_x_format, .ref h_x_paper, .ref h_x_arguments, .ref h_x_directive, .ref h_x_composer, .int x_argumentCount, .int x_lastFault, .int x_lastPlace, .int x_unnumbered, .int x_previousArgument])), (h_x_arguments, .inl (cQ, 9, .inr (.inr (.inr (.inr (fun q => some (pA q)))))))] ++ apool pA pR pK ad cC x_kind x_value x_sz x_tlen x_tkept) sz) ([(h_x, .inr (5, [.ref h_x_format, .ref h_x_paper, .ref h_x_arguments, .ref h_x_directive, .ref h_x_composer, .int out.2.1, .int x_lastFault, .int x_lastPlace, .int x_unnumbered, .int x_previousArgument])), (h_x_arguments, .inl (cQ, 9, .inr (.inr (.inr (.inr (fun q => some (pA q)))))))] ++ apool pA pR pK ad cC out.2.2.1 out.2.2.2.1 out.2.2.2.2 x_tlen x_tkept) out.1) 0 0 (va_A ([(h_x, .inr (5, [.ref h_x_format, .ref h_x_paper, .ref h_x_arguments, .ref h_x_directive, .ref h_x_composer, .int x_argumentCount, .int x_lastFault, .int x_lastPlace, .int x_unnumbered, .int x_previousArgument])), (h_x_arguments, .inl (cQ, 9, .inr (.inr (.inr (.inr (fun q => some (pA q)))))))] ++ apool pA pR pK ad cC x_kind x_value x_sz x_tlen x_tkept) sz) := by
  refine mm_of (own := "DirectivePrinter") (cc := b_DP_decimal) (maxL := 4) (ret := (some .int)) (by decide) rfl rfl ?_
  intro p e s m below meth c hsz C0 hw hname
  generalize (va_A ([(h_x, .inr (5, [.ref h_x_format, .ref h_x_paper, .ref h_x_arguments, .ref h_x_directive, .ref h_x_composer, .int x_argumentCount, .int x_lastFault, .int x_lastPlace, .int x_unnumbered, .int x_previousArgument])), (h_x_arguments, .inl (cQ, 9, .inr (.inr (.inr (.inr (fun q => some (pA q)))))))] ++ apool pA pR pK ad cC x_kind x_value x_sz x_tlen x_tkept) sz) = A at C0 hw ⊢
  have hl := lv_entry ([.ref h_x, .long us, .int sc]) (n := 4) (Nat.le_of_ble_eq_true rfl)
  rw [lg_entry_eq]
  generalize (lg_sl ([.ref h_x, .long us, .int sc]) ++ List.replicate (4 - (lg_sl ([.ref h_x, .long us, .int sc])).length) Slot.unset).toArray = ls at hl ⊢
  have hl : lv_has ls 4 [(0, .ref h_x), (1, .long us), (3, .int sc)] := hl
  obtain ⟨hx, hb, hr, hml, hown, hts, hlocks, hK, hZ, hA⟩ := id C0
  generalize s.heap = H at hw ⊢
  unfold f_DP_decimal at hf
  refine lv_iload_n hx hb d_DP_decimal_0 rfl (lv_at hl 2 rfl) ?_
  refine lv_if_lt (tgt := 10) hx hb d_DP_decimal_1 (by decide) (fun hc => ?_) (fun hc => ?_)
  · replace hf := mm_ip hc hf
    cases hf
  · replace hf := mm_in hc hf
    refine lv_iload_n hx hb d_DP_decimal_4 rfl (lv_at hl 2 rfl) ?_
    refine lv_bipush (v := (40 : Int32)) hx hb d_DP_decimal_5 (by decide) ?_
    refine lv_icmp_le (tgt := 20) hx hb d_DP_decimal_7 (by decide) (fun hc => ?_) (fun hc => ?_)
    · replace hf := mm_ip hc hf
      refine lv_aload_n hx hb d_DP_decimal_20 rfl (lv_at hl 0 rfl) ?_
      refine va_gets hx hb ((Zo.2 _ _ _ hZ).2.1.1 5 (by decide)).1 hw.2.2 hown (hts _ (List.mem_cons_of_mem _ q_777)) (fun _ h9 => h9) d_DP_decimal_21 ?_
      refine lv_lload_n hx hb d_DP_decimal_24 rfl (lv_at hl 1 rfl) ?_
      refine lv_iload_n hx hb d_DP_decimal_25 rfl (lv_at hl 2 rfl) ?_
      obtain ⟨r_1, o_2, o_3, o_4, o_5, hu, hf⟩ := mm_b5_ok hf
      refine mm_ciP (wr := []) (va_runV (As := [.ref (ad (5)), .long us, .int sc]) (rest := []) ⟨hx, hb, hml, hown, hts⟩ (c_DP_addArgument l Zo dC dI cC cI cJ cQ x_argumentCount x_lastFault x_lastPlace x_unnumbered x_previousArgument (5) us sc x_kind x_value x_sz x_tlen x_tkept (by decide) h_x h_x_arguments h_x_format h_x_paper h_x_directive h_x_composer pA pR pK H.size (r_1, o_2, o_3, o_4, o_5) hu) (cwV 3 hts (mm_gV q_259 q_261 q_0 q_54 q_262) rfl rfl rfl (by decide +kernel) ⟨Nat.le_of_ble_eq_true rfl, Nat.le_of_ble_eq_true rfl⟩) (mm_pvP Zo.1 hK hw hZ hA [0, 1] (by decide) rfl (ci := 5) (q0 := 0) rfl rfl) rfl rfl hl.1 rfl (lv_room (Nat.le_of_ble_eq_true rfl)) d_DP_decimal_26 ⟨Nat.le_refl _, Nat.le_refl _⟩) hw hA [0, 1] [] rfl rfl (by decide) (by decide) (fun H locs hw => ?_)
      have hw : mm_w (dC, dI) vwC A s ([(h_x, .inr (5, [.ref h_x_format, .ref h_x_paper, .ref h_x_arguments, .ref h_x_directive, .ref h_x_composer, .int o_2, .int x_lastFault, .int x_lastPlace, .int x_unnumbered, .int x_previousArgument])), (h_x_arguments, .inl (cQ, 9, .inr (.inr (.inr (.inr (fun q => some (pA q)))))))] ++ apool pA pR pK ad cC o_3 o_4 o_5 x_tlen x_tkept) H locs := hw
      obtain rfl := Option.some.inj hf
      exact mm_iret hx hb hr hlocks hK (mm_wsubT hw [0, 1] (by decide) rfl) rfl d_DP_decimal_29
    · replace hf := mm_in hc hf
      cases hf
/-! DirectivePrinter.write(IJ)I -/
def f_DP_write_41 (x_format_kept_n : Nat) (n : Int32) (cs : Int64) : Nat → (Nat → Int32) → Int32 → Int32 → Option (Int32 × (Nat → Int32) × Int32)
  | 0, _, _, _ => none
  | fu + 1, x_format_kept, x_format_length, x4 => (if n ≤ x4 then mm_b1 (f_Row_size x_format_length) (fun r_2 => some (r_2, x_format_kept, x_format_length)) else mm_b2 (f_Row_add x_format_kept_n x_format_kept x_format_length (mm_c (((mm_lu cs ((8 : Int32) * x4)) &&& (255 : Int64)).toInt32))) (fun o_3 o_4 => f_DP_write_41 x_format_kept_n n cs fu o_3 o_4 (x4 + (1 : Int32))))
def f_DP_write (N : Nat) (x_format_kept_n : Nat) (x_format_kept : Nat → Int32) (x_format_length : Int32) (n : Int32) (cs : Int64) : Option (Int32 × (Nat → Int32) × Int32) := (if n < (1 : Int32) then none else (if n ≤ (8 : Int32) then mm_b1 (f_Row_size x_format_length) (fun r_1 => (if (r_1 + n) ≤ (256 : Int32) then f_DP_write_41 x_format_kept_n n cs N x_format_kept x_format_length (0 : Int32) else some ((-1 : Int32), x_format_kept, x_format_length))) else none))
abbrev r_DP_write : Room := { frames := 1, cells := 0, slots := 0, locals := 21 }
set_option maxHeartbeats 4000000 in
set_option maxRecDepth 100000 in
theorem b_DP_write_41 {h_x h_x_format h_x_format_kept h_x_paper h_x_arguments h_x_directive h_x_composer : Nat} (Zo : mm_Zx Z ad adK adV) (C0 : mm_cx (dC, dI) vwC (tyl cC cI cJ cQ) Z p s m args meth c b_DP_write 5 (some .int) "DirectivePrinter" w_DP_write A) (N : Nat) (x_format_kept_n : Nat) (x_argumentCount : Int32) (x_lastFault : Int32) (x_lastPlace : Int32) (x_unnumbered : Int32) (x_previousArgument : Int32) (n : Int32) (cs : Int64) (out : Int32 × (Nat → Int32) × Int32) : ∀ (fuel : Nat) (x_format_kept : Nat → Int32) (x_format_length : Int32) (x4 : Int32), f_DP_write_41 x_format_kept_n n cs fuel x_format_kept x_format_length x4 = some out → ∀ (H : Heap) (locs : List Loc), mm_w (dC, dI) vwC A s [(h_x, .inr (5, [.ref h_x_format, .ref h_x_paper, .ref h_x_arguments, .ref h_x_directive, .ref h_x_composer, .int x_argumentCount, .int x_lastFault, .int x_lastPlace, .int x_unnumbered, .int x_previousArgument])), (h_x_format, .inr (0, [.ref h_x_format_kept, .int x_format_length])), (h_x_format_kept, .inl (cC, x_format_kept_n, .inl x_format_kept))] H locs → ∀ (ls : Array Slot), lv_has ls 5 [(0, .ref h_x), (1, .int n), (2, .long cs), (4, .int x4)] → W p l e r_DP_write s m args below meth c H locs 0 0 (MQ below (mm_qi (dC, dI) vwC (tyl cC cI cJ cQ) A [(h_x, .inr (5, [.ref h_x_format, .ref h_x_paper, .ref h_x_arguments, .ref h_x_directive, .ref h_x_composer, .int x_argumentCount, .int x_lastFault, .int x_lastPlace, .int x_unnumbered, .int x_previousArgument])), (h_x_format, .inr (0, [.ref h_x_format_kept, .int out.2.2])), (h_x_format_kept, .inl (cC, x_format_kept_n, .inl out.2.1))] out.1) args s 0 0 A) (F0 m 41 ls []) := by
  obtain ⟨hx, hb, hr, hml, hown, hts, hlocks, hK, hZ, hA⟩ := id C0
  intro fuel
  induction fuel with
  | zero =>
    intro x_format_kept x_format_length x4 hf
    cases (show (none : Option (Int32 × (Nat → Int32) × Int32)) = some out from hf)
  | succ fu ih =>
    intro x_format_kept x_format_length x4 hf H locs hw ls hl
    unfold f_DP_write_41 at hf
    refine lv_iload hx hb d_DP_write_41 (lv_at hl 3 rfl) ?_
    refine lv_iload_n hx hb d_DP_write_43 rfl (lv_at hl 1 rfl) ?_
    refine lv_icmp_ge (tgt := 73) hx hb d_DP_write_44 (by decide) (fun hc => ?_) (fun hc => ?_)
    · replace hf := mm_ip hc hf
      refine lv_aload_n hx hb d_DP_write_73 rfl (lv_at hl 0 rfl) ?_
      refine va_get (D := (dC, dI)) (ci := 5) (v := .ref h_x_format) (C := "DirectivePrinter") (T := T_DP) (N := 10) hx hb hts (mm_up i_DP) hown hK hw.1 0 rfl rfl 0 (by decide) (hts _ (List.mem_cons_of_mem _ q_207)) (fun _ h9 => h9) rfl d_DP_write_74 ?_
      obtain ⟨r_2, hu, hf⟩ := mm_b1_ok hf
      refine mm_ci (wr := [(h_x, .inr (5, [.ref h_x_format, .ref h_x_paper, .ref h_x_arguments, .ref h_x_directive, .ref h_x_composer, .int x_argumentCount, .int x_lastFault, .int x_lastPlace, .int x_unnumbered, .int x_previousArgument]))]) (va_runV (As := []) (rest := []) ⟨hx, hb, hml, hown, hts⟩ (c_Row_size l Zo dC dI cC cI cJ cQ x_format_kept_n x_format_kept x_format_length h_x_format h_x_format_kept H.size r_2 hu) (cwV 0 hts (mm_gV q_242 q_243 q_244 q_55 q_245) rfl rfl rfl (by decide +kernel) ⟨Nat.le_of_ble_eq_true rfl, Nat.le_of_ble_eq_true rfl⟩) (mm_pv Zo.1 hK hw hZ hA [1, 2] (by decide) rfl rfl (ci := 0) (q0 := 0) rfl rfl) rfl rfl hl.1 rfl (lv_room (Nat.le_of_ble_eq_true rfl)) d_DP_write_77 ⟨Nat.le_refl _, Nat.le_refl _⟩) hw hA [1, 2] [0] rfl rfl (by decide) (by decide) (fun H locs hw => ?_)
      have hw : mm_w (dC, dI) vwC A s [(h_x, .inr (5, [.ref h_x_format, .ref h_x_paper, .ref h_x_arguments, .ref h_x_directive, .ref h_x_composer, .int x_argumentCount, .int x_lastFault, .int x_lastPlace, .int x_unnumbered, .int x_previousArgument])), (h_x_format, .inr (0, [.ref h_x_format_kept, .int x_format_length])), (h_x_format_kept, .inl (cC, x_format_kept_n, .inl x_format_kept))] H locs := hw
      obtain rfl := Option.some.inj hf
      exact mm_iret hx hb hr hlocks hK (mm_wsub hw [0, 1, 2] (by decide) rfl rfl) rfl d_DP_write_80
    · replace hf := mm_in hc hf
      refine lv_aload_n hx hb d_DP_write_47 rfl (lv_at hl 0 rfl) ?_
      refine va_get (D := (dC, dI)) (ci := 5) (v := .ref h_x_format) (C := "DirectivePrinter") (T := T_DP) (N := 10) hx hb hts (mm_up i_DP) hown hK hw.1 0 rfl rfl 0 (by decide) (hts _ (List.mem_cons_of_mem _ q_207)) (fun _ h9 => h9) rfl d_DP_write_48 ?_
      refine lv_lload_n hx hb d_DP_write_51 rfl (lv_at hl 2 rfl) ?_
      refine lv_bipush (v := (8 : Int32)) hx hb d_DP_write_52 (by decide) ?_
      refine lv_iload hx hb d_DP_write_54 (lv_at hl 3 rfl) ?_
      refine lv_imul hx hb d_DP_write_56 ?_
      refine lv_lushr (v := mm_lu cs ((8 : Int32) * x4)) hx hb d_DP_write_57 rfl ?_
      refine lv_ldc2 (v := (255 : Int64)) hx hb hown (hts _ (List.mem_cons_of_mem _ q_724)) d_DP_write_58 ?_
      refine lv_land hx hb d_DP_write_61 ?_
      refine lv_l2i (v := ((mm_lu cs ((8 : Int32) * x4)) &&& (255 : Int64)).toInt32) hx hb d_DP_write_62 rfl ?_
      refine lv_i2c (v := mm_c (((mm_lu cs ((8 : Int32) * x4)) &&& (255 : Int64)).toInt32)) hx hb d_DP_write_63 rfl ?_
      obtain ⟨o_3, o_4, hu, hf⟩ := mm_b2_ok hf
      refine mm_cv (wr := [(h_x, .inr (5, [.ref h_x_format, .ref h_x_paper, .ref h_x_arguments, .ref h_x_directive, .ref h_x_composer, .int x_argumentCount, .int x_lastFault, .int x_lastPlace, .int x_unnumbered, .int x_previousArgument]))]) (va_runV (As := [.int (mm_c (((mm_lu cs ((8 : Int32) * x4)) &&& (255 : Int64)).toInt32))]) (rest := []) ⟨hx, hb, hml, hown, hts⟩ (c_Row_add l Zo dC dI cC cI cJ cQ x_format_kept_n x_format_kept x_format_length (mm_c (((mm_lu cs ((8 : Int32) * x4)) &&& (255 : Int64)).toInt32)) h_x_format h_x_format_kept H.size (o_3, o_4) hu) (cwV 1 hts (mm_gV q_636 q_459 q_460 q_55 q_461) rfl rfl rfl (by decide +kernel) ⟨Nat.le_of_ble_eq_true rfl, Nat.le_of_ble_eq_true rfl⟩) (mm_pv Zo.1 hK hw hZ hA [1, 2] (by decide) rfl rfl (ci := 0) (q0 := 0) rfl rfl) rfl rfl hl.1 rfl (lv_room (Nat.le_of_ble_eq_true rfl)) d_DP_write_64 ⟨Nat.le_refl _, Nat.le_refl _⟩) hw hA [1, 2] [0] rfl rfl (by decide) (by decide) (fun H locs hw => ?_)
      have hw : mm_w (dC, dI) vwC A s [(h_x, .inr (5, [.ref h_x_format, .ref h_x_paper, .ref h_x_arguments, .ref h_x_directive, .ref h_x_composer, .int x_argumentCount, .int x_lastFault, .int x_lastPlace, .int x_unnumbered, .int x_previousArgument])), (h_x_format, .inr (0, [.ref h_x_format_kept, .int o_4])), (h_x_format_kept, .inl (cC, x_format_kept_n, .inl o_3))] H locs := hw
      refine lv_iinc (v := x4 + (1 : Int32)) (lv' := [(4, .int (x4 + (1 : Int32))), (0, .ref h_x), (1, .int n), (2, .long cs)]) hx hb d_DP_write_67 hl (k := 3) rfl rfl (by decide) rfl (fun ls hl => ?_)
      refine lv_goto (tgt := 41) hx hb d_DP_write_70 (by decide) ?_
      exact ih o_3 o_4 (x4 + (1 : Int32)) hf _ _ hw _ (lv_sub hl [1, 2, 3, 0] rfl)
set_option maxHeartbeats 4000000 in
set_option maxRecDepth 100000 in
theorem c_DP_write (l : Launch) {Z : (Nat → Prop) → State → Heap → Prop} {ad adK adV : Nat → Nat} (Zo : mm_Zx Z ad adK adV) (dC : Nat → ClassId) (dI : Nat → Nat → Nat) (cC cI cJ cQ : ClassId) (N : Nat) (x_format_kept_n : Nat) (x_format_kept : Nat → Int32) (x_format_length : Int32) (x_argumentCount : Int32) (x_lastFault : Int32) (x_lastPlace : Int32) (x_unnumbered : Int32) (x_previousArgument : Int32) (n : Int32) (cs : Int64) (h_x h_x_format h_x_format_kept h_x_paper h_x_arguments h_x_directive h_x_composer : Nat) (sz : Nat) (out : Int32 × (Nat → Int32) × Int32) (hf : f_DP_write N x_format_kept_n x_format_kept x_format_length n cs = some out) : Met l y_DP_write w_DP_write r_DP_write (mm_pre (dC, dI) vwC (tyl cC cI cJ cQ) Z [(h_x, .inr (5, [.ref h_x_format, .ref h_x_paper, .ref h_x_arguments, .ref h_x_directive, .ref h_x_composer, .int x_argumentCount, .int x_lastFault, .int x_lastPlace, .int x_unnumbered, .int x_previousArgument])), (h_x_format, .inr (0, [.ref h_x_format_kept, .int x_format_length])), (h_x_format_kept, .inl (cC, x_format_kept_n, .inl x_format_kept))] sz [.ref h_x, .int n, .long cs]) (mm_qi (dC, dI) vwC (tyl cC cI cJ cQ) (va_A [(h_x, .inr (5, [.ref h_x_format, .ref h_x_paper, .ref h_x_arguments, .ref h_x_directive, .ref h_x_composer, .int x_argumentCount, .int x_lastFault, .int x_lastPlace, .int x_unnumbered, .int x_previousArgument])), (h_x_format, .inr (0, [.ref h_x_format_kept, .int x_format_length])), (h_x_format_kept, .inl (cC, x_format_kept_n, .inl x_format_kept))] sz) [(h_x, .inr (5, [.ref h_x_format, .ref h_x_paper, .ref h_x_arguments, .ref h_x_directive, .ref h_x_composer, .int x_argumentCount, .int x_lastFault, .int x_lastPlace, .int x_unnumbered, .int x_previousArgument])), (h_x_format, .inr (0, [.ref h_x_format_kept, .int out.2.2])), (h_x_format_kept, .inl (cC, x_format_kept_n, .inl out.2.1))] out.1) 0 0 (va_A [(h_x, .inr (5, [.ref h_x_format, .ref h_x_paper, .ref h_x_arguments, .ref h_x_directive, .ref h_x_composer, .int x_argumentCount, .int x_lastFault, .int x_lastPlace, .int x_unnumbered, .int x_previousArgument])), (h_x_format, .inr (0, [.ref h_x_format_kept, .int x_format_length])), (h_x_format_kept, .inl (cC, x_format_kept_n, .inl x_format_kept))] sz) := by
  refine mm_of (own := "DirectivePrinter") (cc := b_DP_write) (maxL := 5) (ret := (some .int)) (by decide) rfl rfl ?_
  intro p e s m below meth c hsz C0 hw hname
  generalize (va_A [(h_x, .inr (5, [.ref h_x_format, .ref h_x_paper, .ref h_x_arguments, .ref h_x_directive, .ref h_x_composer, .int x_argumentCount, .int x_lastFault, .int x_lastPlace, .int x_unnumbered, .int x_previousArgument])), (h_x_format, .inr (0, [.ref h_x_format_kept, .int x_format_length])), (h_x_format_kept, .inl (cC, x_format_kept_n, .inl x_format_kept))] sz) = A at C0 hw ⊢
  have hl := lv_entry ([.ref h_x, .int n, .long cs]) (n := 5) (Nat.le_of_ble_eq_true rfl)
  rw [lg_entry_eq]
  generalize (lg_sl ([.ref h_x, .int n, .long cs]) ++ List.replicate (5 - (lg_sl ([.ref h_x, .int n, .long cs])).length) Slot.unset).toArray = ls at hl ⊢
  have hl : lv_has ls 5 [(0, .ref h_x), (1, .int n), (2, .long cs)] := hl
  obtain ⟨hx, hb, hr, hml, hown, hts, hlocks, hK, hZ, hA⟩ := id C0
  generalize s.heap = H at hw ⊢
  unfold f_DP_write at hf
  refine lv_iload_n hx hb d_DP_write_0 rfl (lv_at hl 1 rfl) ?_
  refine lv_iconst (v := (1 : Int32)) hx hb d_DP_write_1 (by decide) ?_
  refine lv_icmp_lt (tgt := 11) hx hb d_DP_write_2 (by decide) (fun hc => ?_) (fun hc => ?_)
  · replace hf := mm_ip hc hf
    cases hf
  · replace hf := mm_in hc hf
    refine lv_iload_n hx hb d_DP_write_5 rfl (lv_at hl 1 rfl) ?_
    refine lv_bipush (v := (8 : Int32)) hx hb d_DP_write_6 (by decide) ?_
    refine lv_icmp_le (tgt := 21) hx hb d_DP_write_8 (by decide) (fun hc => ?_) (fun hc => ?_)
    · replace hf := mm_ip hc hf
      refine lv_aload_n hx hb d_DP_write_21 rfl (lv_at hl 0 rfl) ?_
      refine va_get (D := (dC, dI)) (ci := 5) (v := .ref h_x_format) (C := "DirectivePrinter") (T := T_DP) (N := 10) hx hb hts (mm_up i_DP) hown hK hw.1 0 rfl rfl 0 (by decide) (hts _ (List.mem_cons_of_mem _ q_207)) (fun _ h9 => h9) rfl d_DP_write_22 ?_
      obtain ⟨r_1, hu, hf⟩ := mm_b1_ok hf
      refine mm_ci (wr := [(h_x, .inr (5, [.ref h_x_format, .ref h_x_paper, .ref h_x_arguments, .ref h_x_directive, .ref h_x_composer, .int x_argumentCount, .int x_lastFault, .int x_lastPlace, .int x_unnumbered, .int x_previousArgument]))]) (va_runV (As := []) (rest := []) ⟨hx, hb, hml, hown, hts⟩ (c_Row_size l Zo dC dI cC cI cJ cQ x_format_kept_n x_format_kept x_format_length h_x_format h_x_format_kept H.size r_1 hu) (cwV 0 hts (mm_gV q_242 q_243 q_244 q_55 q_245) rfl rfl rfl (by decide +kernel) ⟨Nat.le_of_ble_eq_true rfl, Nat.le_of_ble_eq_true rfl⟩) (mm_pv Zo.1 hK hw hZ hA [1, 2] (by decide) rfl rfl (ci := 0) (q0 := 0) rfl rfl) rfl rfl hl.1 rfl (lv_room (Nat.le_of_ble_eq_true rfl)) d_DP_write_25 ⟨Nat.le_refl _, Nat.le_refl _⟩) hw hA [1, 2] [0] rfl rfl (by decide) (by decide) (fun H locs hw => ?_)
      have hw : mm_w (dC, dI) vwC A s [(h_x, .inr (5, [.ref h_x_format, .ref h_x_paper, .ref h_x_arguments, .ref h_x_directive, .ref h_x_composer, .int x_argumentCount, .int x_lastFault, .int x_lastPlace, .int x_unnumbered, .int x_previousArgument])), (h_x_format, .inr (0, [.ref h_x_format_kept, .int x_format_length])), (h_x_format_kept, .inl (cC, x_format_kept_n, .inl x_format_kept))] H locs := hw
      refine lv_iload_n hx hb d_DP_write_28 rfl (lv_at hl 1 rfl) ?_
      refine lv_iadd hx hb d_DP_write_29 ?_
      refine lv_sipush (v := (256 : Int32)) hx hb d_DP_write_30 (by decide) ?_
      refine lv_icmp_le (tgt := 38) hx hb d_DP_write_33 (by decide) (fun hc => ?_) (fun hc => ?_)
      · replace hf := mm_ip hc hf
        refine lv_iconst (v := (0 : Int32)) hx hb d_DP_write_38 (by decide) ?_
        refine lv_istore (lv' := [(4, .int (0 : Int32)), (0, .ref h_x), (1, .int n), (2, .long cs)]) hx hb d_DP_write_39 hl (by decide) rfl (fun ls hl => ?_)
        exact b_DP_write_41 Zo C0 N x_format_kept_n x_argumentCount x_lastFault x_lastPlace x_unnumbered x_previousArgument n cs  out N x_format_kept x_format_length (0 : Int32) hf _ _ hw _ (lv_sub hl [1, 2, 3, 0] rfl)
      · replace hf := mm_in hc hf
        refine lv_iconst (v := (-1 : Int32)) hx hb d_DP_write_36 (by decide) ?_
        obtain rfl := Option.some.inj hf
        exact mm_iret hx hb hr hlocks hK (mm_wsub hw [0, 1, 2] (by decide) rfl rfl) rfl d_DP_write_37
    · replace hf := mm_in hc hf
      cases hf
end
