section
variable {p : Program} {l : Launch} {e : Env} {s : State} {m : MethodId} {args : Array Value} {below : List Frame} {meth : Method} {c : Code} {dC : Nat → ClassId} {dI : Nat → Nat → Nat} {cC cI cJ cQ : ClassId} {A : Nat → Prop} {Z : (Nat → Prop) → State → Heap → Prop} {ad adK adV : Nat → Nat}
abbrev b_Directive_last : ByteArray := prog_4_method_3_code
abbrev y_Directive_last : MethodName := ⟨"DirectivePrinter$Directive", "last", "()I"⟩
def w_Directive_last : List Cond := .code y_Directive_last b_Directive_last 1 (some .int) :: lw_g
theorem d_Directive_last_0 : decode b_Directive_last 0 = .ok (.aload_n 0, 1) := by decide +kernel
theorem d_Directive_last_1 : decode b_Directive_last 1 = .ok (.getfield 31, 3) := by decide +kernel
theorem d_Directive_last_4 : decode b_Directive_last 4 = .ok (.ireturn, 1) := by decide +kernel
abbrev b_Directive_has : ByteArray := prog_4_method_4_code
abbrev y_Directive_has : MethodName := ⟨"DirectivePrinter$Directive", "has", "(I)Z"⟩
def w_Directive_has : List Cond := .code y_Directive_has b_Directive_has 2 (some .boolean) :: lw_g
theorem d_Directive_has_0 : decode b_Directive_has 0 = .ok (.aload_n 0, 1) := by decide +kernel
theorem d_Directive_has_1 : decode b_Directive_has 1 = .ok (.getfield 15, 3) := by decide +kernel
theorem d_Directive_has_4 : decode b_Directive_has 4 = .ok (.iload_n 1, 1) := by decide +kernel
theorem d_Directive_has_5 : decode b_Directive_has 5 = .ok (.iand, 1) := by decide +kernel
theorem d_Directive_has_6 : decode b_Directive_has 6 = .ok (.ifCond .eq 7, 3) := by decide +kernel
theorem d_Directive_has_9 : decode b_Directive_has 9 = .ok (.iconst 1, 1) := by decide +kernel
theorem d_Directive_has_10 : decode b_Directive_has 10 = .ok (.goto 4, 3) := by decide +kernel
theorem d_Directive_has_13 : decode b_Directive_has 13 = .ok (.iconst 0, 1) := by decide +kernel
theorem d_Directive_has_14 : decode b_Directive_has 14 = .ok (.ireturn, 1) := by decide +kernel
abbrev b_Directive_takesArgument : ByteArray := prog_4_method_5_code
abbrev y_Directive_takesArgument : MethodName := ⟨"DirectivePrinter$Directive", "takesArgument", "()Z"⟩
def w_Directive_takesArgument : List Cond := .code y_Directive_takesArgument b_Directive_takesArgument 1 (some .boolean) :: lw_g
theorem d_Directive_takesArgument_0 : decode b_Directive_takesArgument 0 = .ok (.aload_n 0, 1) := by decide +kernel
theorem d_Directive_takesArgument_1 : decode b_Directive_takesArgument 1 = .ok (.getfield 28, 3) := by decide +kernel
theorem d_Directive_takesArgument_4 : decode b_Directive_takesArgument 4 = .ok (.bipush 37, 2) := by decide +kernel
theorem d_Directive_takesArgument_6 : decode b_Directive_takesArgument 6 = .ok (.if_icmp .eq 16, 3) := by decide +kernel
theorem d_Directive_takesArgument_9 : decode b_Directive_takesArgument 9 = .ok (.aload_n 0, 1) := by decide +kernel
theorem d_Directive_takesArgument_10 : decode b_Directive_takesArgument 10 = .ok (.getfield 28, 3) := by decide +kernel
theorem d_Directive_takesArgument_13 : decode b_Directive_takesArgument 13 = .ok (.bipush 110, 2) := by decide +kernel
theorem d_Directive_takesArgument_15 : decode b_Directive_takesArgument 15 = .ok (.if_icmp .eq 7, 3) := by decide +kernel
theorem d_Directive_takesArgument_18 : decode b_Directive_takesArgument 18 = .ok (.iconst 1, 1) := by decide +kernel
theorem d_Directive_takesArgument_19 : decode b_Directive_takesArgument 19 = .ok (.goto 4, 3) := by decide +kernel
theorem d_Directive_takesArgument_22 : decode b_Directive_takesArgument 22 = .ok (.iconst 0, 1) := by decide +kernel
theorem d_Directive_takesArgument_23 : decode b_Directive_takesArgument 23 = .ok (.ireturn, 1) := by decide +kernel
abbrev b_Directive_isLarge : ByteArray := prog_4_method_6_code
abbrev y_Directive_isLarge : MethodName := ⟨"DirectivePrinter$Directive", "isLarge", "()Z"⟩
def w_Directive_isLarge : List Cond := .code y_Directive_isLarge b_Directive_isLarge 1 (some .boolean) :: lw_g
theorem d_Directive_isLarge_0 : decode b_Directive_isLarge 0 = .ok (.aload_n 0, 1) := by decide +kernel
theorem d_Directive_isLarge_1 : decode b_Directive_isLarge 1 = .ok (.getfield 28, 3) := by decide +kernel
theorem d_Directive_isLarge_4 : decode b_Directive_isLarge 4 = .ok (.bipush 65, 2) := by decide +kernel
theorem d_Directive_isLarge_6 : decode b_Directive_isLarge 6 = .ok (.if_icmp .lt 16, 3) := by decide +kernel
theorem d_Directive_isLarge_9 : decode b_Directive_isLarge 9 = .ok (.aload_n 0, 1) := by decide +kernel
theorem d_Directive_isLarge_10 : decode b_Directive_isLarge 10 = .ok (.getfield 28, 3) := by decide +kernel
theorem d_Directive_isLarge_13 : decode b_Directive_isLarge 13 = .ok (.bipush 90, 2) := by decide +kernel
theorem d_Directive_isLarge_15 : decode b_Directive_isLarge 15 = .ok (.if_icmp .gt 7, 3) := by decide +kernel
theorem d_Directive_isLarge_18 : decode b_Directive_isLarge 18 = .ok (.iconst 1, 1) := by decide +kernel
theorem d_Directive_isLarge_19 : decode b_Directive_isLarge 19 = .ok (.goto 4, 3) := by decide +kernel
theorem d_Directive_isLarge_22 : decode b_Directive_isLarge 22 = .ok (.iconst 0, 1) := by decide +kernel
theorem d_Directive_isLarge_23 : decode b_Directive_isLarge 23 = .ok (.ireturn, 1) := by decide +kernel
abbrev b_Directive_smallConversion : ByteArray := prog_4_method_7_code
abbrev y_Directive_smallConversion : MethodName := ⟨"DirectivePrinter$Directive", "smallConversion", "()C"⟩
def w_Directive_smallConversion : List Cond := .code y_Directive_smallConversion b_Directive_smallConversion 1 (some .char) :: lw_g
theorem d_Directive_smallConversion_0 : decode b_Directive_smallConversion 0 = .ok (.aload_n 0, 1) := by decide +kernel
theorem d_Directive_smallConversion_1 : decode b_Directive_smallConversion 1 = .ok (.invokevirtual 54, 3) := by decide +kernel
theorem d_Directive_smallConversion_4 : decode b_Directive_smallConversion 4 = .ok (.ifCond .eq 16, 3) := by decide +kernel
theorem d_Directive_smallConversion_7 : decode b_Directive_smallConversion 7 = .ok (.aload_n 0, 1) := by decide +kernel
theorem d_Directive_smallConversion_8 : decode b_Directive_smallConversion 8 = .ok (.getfield 28, 3) := by decide +kernel
theorem d_Directive_smallConversion_11 : decode b_Directive_smallConversion 11 = .ok (.bipush 65, 2) := by decide +kernel
theorem d_Directive_smallConversion_13 : decode b_Directive_smallConversion 13 = .ok (.isub, 1) := by decide +kernel
theorem d_Directive_smallConversion_14 : decode b_Directive_smallConversion 14 = .ok (.bipush 97, 2) := by decide +kernel
theorem d_Directive_smallConversion_16 : decode b_Directive_smallConversion 16 = .ok (.iadd, 1) := by decide +kernel
theorem d_Directive_smallConversion_17 : decode b_Directive_smallConversion 17 = .ok (.goto 7, 3) := by decide +kernel
theorem d_Directive_smallConversion_20 : decode b_Directive_smallConversion 20 = .ok (.aload_n 0, 1) := by decide +kernel
theorem d_Directive_smallConversion_21 : decode b_Directive_smallConversion 21 = .ok (.getfield 28, 3) := by decide +kernel
theorem d_Directive_smallConversion_24 : decode b_Directive_smallConversion 24 = .ok (.i2c, 1) := by decide +kernel
theorem d_Directive_smallConversion_25 : decode b_Directive_smallConversion 25 = .ok (.ireturn, 1) := by decide +kernel
abbrev b_Directive_precisionOr : ByteArray := prog_4_method_8_code
abbrev y_Directive_precisionOr : MethodName := ⟨"DirectivePrinter$Directive", "precisionOr", "(I)I"⟩
def w_Directive_precisionOr : List Cond := .code y_Directive_precisionOr b_Directive_precisionOr 2 (some .int) :: lw_g
theorem d_Directive_precisionOr_0 : decode b_Directive_precisionOr 0 = .ok (.aload_n 0, 1) := by decide +kernel
theorem d_Directive_precisionOr_1 : decode b_Directive_precisionOr 1 = .ok (.getfield 25, 3) := by decide +kernel
theorem d_Directive_precisionOr_4 : decode b_Directive_precisionOr 4 = .ok (.iconst (-1), 1) := by decide +kernel
theorem d_Directive_precisionOr_5 : decode b_Directive_precisionOr 5 = .ok (.if_icmp .ne 7, 3) := by decide +kernel
theorem d_Directive_precisionOr_8 : decode b_Directive_precisionOr 8 = .ok (.iload_n 1, 1) := by decide +kernel
theorem d_Directive_precisionOr_9 : decode b_Directive_precisionOr 9 = .ok (.goto 7, 3) := by decide +kernel
theorem d_Directive_precisionOr_12 : decode b_Directive_precisionOr 12 = .ok (.aload_n 0, 1) := by decide +kernel
theorem d_Directive_precisionOr_13 : decode b_Directive_precisionOr 13 = .ok (.getfield 25, 3) := by decide +kernel
theorem d_Directive_precisionOr_16 : decode b_Directive_precisionOr 16 = .ok (.ireturn, 1) := by decide +kernel
abbrev b_Directive_isDigit : ByteArray := prog_4_method_16_code
abbrev y_Directive_isDigit : MethodName := ⟨"DirectivePrinter$Directive", "isDigit", "(I)Z"⟩
def w_Directive_isDigit : List Cond := .code y_Directive_isDigit b_Directive_isDigit 1 (some .boolean) :: lw_g
theorem d_Directive_isDigit_0 : decode b_Directive_isDigit 0 = .ok (.iload_n 0, 1) := by decide +kernel
theorem d_Directive_isDigit_1 : decode b_Directive_isDigit 1 = .ok (.bipush 48, 2) := by decide +kernel
theorem d_Directive_isDigit_3 : decode b_Directive_isDigit 3 = .ok (.if_icmp .lt 13, 3) := by decide +kernel
theorem d_Directive_isDigit_6 : decode b_Directive_isDigit 6 = .ok (.iload_n 0, 1) := by decide +kernel
theorem d_Directive_isDigit_7 : decode b_Directive_isDigit 7 = .ok (.bipush 57, 2) := by decide +kernel
theorem d_Directive_isDigit_9 : decode b_Directive_isDigit 9 = .ok (.if_icmp .gt 7, 3) := by decide +kernel
theorem d_Directive_isDigit_12 : decode b_Directive_isDigit 12 = .ok (.iconst 1, 1) := by decide +kernel
theorem d_Directive_isDigit_13 : decode b_Directive_isDigit 13 = .ok (.goto 4, 3) := by decide +kernel
theorem d_Directive_isDigit_16 : decode b_Directive_isDigit 16 = .ok (.iconst 0, 1) := by decide +kernel
theorem d_Directive_isDigit_17 : decode b_Directive_isDigit 17 = .ok (.ireturn, 1) := by decide +kernel
abbrev b_Directive_readNumber : ByteArray := prog_4_method_15_code
abbrev y_Directive_readNumber : MethodName := ⟨"DirectivePrinter$Directive", "readNumber", "(LDirectivePrinter$Row;)I"⟩
def w_Directive_readNumber : List Cond := .code y_Directive_readNumber b_Directive_readNumber 5 (some .int) :: lw_g
theorem d_Directive_readNumber_0 : decode b_Directive_readNumber 0 = .ok (.iconst (-1), 1) := by decide +kernel
theorem d_Directive_readNumber_1 : decode b_Directive_readNumber 1 = .ok (.istore_n 2, 1) := by decide +kernel
theorem d_Directive_readNumber_2 : decode b_Directive_readNumber 2 = .ok (.aload_n 1, 1) := by decide +kernel
theorem d_Directive_readNumber_3 : decode b_Directive_readNumber 3 = .ok (.invokevirtual 82, 3) := by decide +kernel
theorem d_Directive_readNumber_6 : decode b_Directive_readNumber 6 = .ok (.istore_n 3, 1) := by decide +kernel
theorem d_Directive_readNumber_7 : decode b_Directive_readNumber 7 = .ok (.aload_n 0, 1) := by decide +kernel
theorem d_Directive_readNumber_8 : decode b_Directive_readNumber 8 = .ok (.getfield 31, 3) := by decide +kernel
theorem d_Directive_readNumber_11 : decode b_Directive_readNumber 11 = .ok (.iload_n 3, 1) := by decide +kernel
theorem d_Directive_readNumber_12 : decode b_Directive_readNumber 12 = .ok (.if_icmp .ge 61, 3) := by decide +kernel
theorem d_Directive_readNumber_15 : decode b_Directive_readNumber 15 = .ok (.aload_n 1, 1) := by decide +kernel
theorem d_Directive_readNumber_16 : decode b_Directive_readNumber 16 = .ok (.aload_n 0, 1) := by decide +kernel
theorem d_Directive_readNumber_17 : decode b_Directive_readNumber 17 = .ok (.getfield 31, 3) := by decide +kernel
theorem d_Directive_readNumber_20 : decode b_Directive_readNumber 20 = .ok (.invokevirtual 48, 3) := by decide +kernel
theorem d_Directive_readNumber_23 : decode b_Directive_readNumber 23 = .ok (.invokestatic 87, 3) := by decide +kernel
theorem d_Directive_readNumber_26 : decode b_Directive_readNumber 26 = .ok (.ifCond .eq 47, 3) := by decide +kernel
theorem d_Directive_readNumber_29 : decode b_Directive_readNumber 29 = .ok (.aload_n 1, 1) := by decide +kernel
theorem d_Directive_readNumber_30 : decode b_Directive_readNumber 30 = .ok (.aload_n 0, 1) := by decide +kernel
theorem d_Directive_readNumber_31 : decode b_Directive_readNumber 31 = .ok (.getfield 31, 3) := by decide +kernel
theorem d_Directive_readNumber_34 : decode b_Directive_readNumber 34 = .ok (.invokevirtual 48, 3) := by decide +kernel
theorem d_Directive_readNumber_37 : decode b_Directive_readNumber 37 = .ok (.bipush 48, 2) := by decide +kernel
theorem d_Directive_readNumber_39 : decode b_Directive_readNumber 39 = .ok (.isub, 1) := by decide +kernel
theorem d_Directive_readNumber_40 : decode b_Directive_readNumber 40 = .ok (.istore 4, 2) := by decide +kernel
theorem d_Directive_readNumber_42 : decode b_Directive_readNumber 42 = .ok (.iload_n 2, 1) := by decide +kernel
theorem d_Directive_readNumber_43 : decode b_Directive_readNumber 43 = .ok (.iconst 0, 1) := by decide +kernel
theorem d_Directive_readNumber_44 : decode b_Directive_readNumber 44 = .ok (.invokestatic 90, 3) := by decide +kernel
theorem d_Directive_readNumber_47 : decode b_Directive_readNumber 47 = .ok (.bipush 10, 2) := by decide +kernel
theorem d_Directive_readNumber_49 : decode b_Directive_readNumber 49 = .ok (.imul, 1) := by decide +kernel
theorem d_Directive_readNumber_50 : decode b_Directive_readNumber 50 = .ok (.iload 4, 2) := by decide +kernel
theorem d_Directive_readNumber_52 : decode b_Directive_readNumber 52 = .ok (.iadd, 1) := by decide +kernel
theorem d_Directive_readNumber_53 : decode b_Directive_readNumber 53 = .ok (.sipush 9999, 3) := by decide +kernel
theorem d_Directive_readNumber_56 : decode b_Directive_readNumber 56 = .ok (.invokestatic 96, 3) := by decide +kernel
theorem d_Directive_readNumber_59 : decode b_Directive_readNumber 59 = .ok (.istore_n 2, 1) := by decide +kernel
theorem d_Directive_readNumber_60 : decode b_Directive_readNumber 60 = .ok (.aload_n 0, 1) := by decide +kernel
theorem d_Directive_readNumber_61 : decode b_Directive_readNumber 61 = .ok (.dup, 1) := by decide +kernel
theorem d_Directive_readNumber_62 : decode b_Directive_readNumber 62 = .ok (.getfield 31, 3) := by decide +kernel
theorem d_Directive_readNumber_65 : decode b_Directive_readNumber 65 = .ok (.iconst 1, 1) := by decide +kernel
theorem d_Directive_readNumber_66 : decode b_Directive_readNumber 66 = .ok (.iadd, 1) := by decide +kernel
theorem d_Directive_readNumber_67 : decode b_Directive_readNumber 67 = .ok (.putfield 31, 3) := by decide +kernel
theorem d_Directive_readNumber_70 : decode b_Directive_readNumber 70 = .ok (.goto (-63), 3) := by decide +kernel
theorem d_Directive_readNumber_73 : decode b_Directive_readNumber 73 = .ok (.iload_n 2, 1) := by decide +kernel
theorem d_Directive_readNumber_74 : decode b_Directive_readNumber 74 = .ok (.ireturn, 1) := by decide +kernel
abbrev b_Directive_readIndex : ByteArray := prog_4_method_12_code
abbrev y_Directive_readIndex : MethodName := ⟨"DirectivePrinter$Directive", "readIndex", "(LDirectivePrinter$Row;)V"⟩
def w_Directive_readIndex : List Cond := .code y_Directive_readIndex b_Directive_readIndex 4 none :: lw_g
theorem d_Directive_readIndex_0 : decode b_Directive_readIndex 0 = .ok (.aload_n 0, 1) := by decide +kernel
theorem d_Directive_readIndex_1 : decode b_Directive_readIndex 1 = .ok (.getfield 31, 3) := by decide +kernel
theorem d_Directive_readIndex_4 : decode b_Directive_readIndex 4 = .ok (.istore_n 2, 1) := by decide +kernel
theorem d_Directive_readIndex_5 : decode b_Directive_readIndex 5 = .ok (.aload_n 0, 1) := by decide +kernel
theorem d_Directive_readIndex_6 : decode b_Directive_readIndex 6 = .ok (.iconst (-1), 1) := by decide +kernel
theorem d_Directive_readIndex_7 : decode b_Directive_readIndex 7 = .ok (.putfield 9, 3) := by decide +kernel
theorem d_Directive_readIndex_10 : decode b_Directive_readIndex 10 = .ok (.aload_n 1, 1) := by decide +kernel
theorem d_Directive_readIndex_11 : decode b_Directive_readIndex 11 = .ok (.iload_n 2, 1) := by decide +kernel
theorem d_Directive_readIndex_12 : decode b_Directive_readIndex 12 = .ok (.invokevirtual 48, 3) := by decide +kernel
theorem d_Directive_readIndex_15 : decode b_Directive_readIndex 15 = .ok (.bipush 48, 2) := by decide +kernel
theorem d_Directive_readIndex_17 : decode b_Directive_readIndex 17 = .ok (.if_icmp .ne 4, 3) := by decide +kernel
theorem d_Directive_readIndex_20 : decode b_Directive_readIndex 20 = .ok (.return_, 1) := by decide +kernel
theorem d_Directive_readIndex_21 : decode b_Directive_readIndex 21 = .ok (.aload_n 0, 1) := by decide +kernel
theorem d_Directive_readIndex_22 : decode b_Directive_readIndex 22 = .ok (.aload_n 1, 1) := by decide +kernel
theorem d_Directive_readIndex_23 : decode b_Directive_readIndex 23 = .ok (.invokevirtual 41, 3) := by decide +kernel
theorem d_Directive_readIndex_26 : decode b_Directive_readIndex 26 = .ok (.istore_n 3, 1) := by decide +kernel
theorem d_Directive_readIndex_27 : decode b_Directive_readIndex 27 = .ok (.iload_n 3, 1) := by decide +kernel
theorem d_Directive_readIndex_28 : decode b_Directive_readIndex 28 = .ok (.iconst (-1), 1) := by decide +kernel
theorem d_Directive_readIndex_29 : decode b_Directive_readIndex 29 = .ok (.if_icmp .eq 34, 3) := by decide +kernel
theorem d_Directive_readIndex_32 : decode b_Directive_readIndex 32 = .ok (.aload_n 1, 1) := by decide +kernel
theorem d_Directive_readIndex_33 : decode b_Directive_readIndex 33 = .ok (.aload_n 0, 1) := by decide +kernel
theorem d_Directive_readIndex_34 : decode b_Directive_readIndex 34 = .ok (.getfield 31, 3) := by decide +kernel
theorem d_Directive_readIndex_37 : decode b_Directive_readIndex 37 = .ok (.invokevirtual 48, 3) := by decide +kernel
theorem d_Directive_readIndex_40 : decode b_Directive_readIndex 40 = .ok (.bipush 36, 2) := by decide +kernel
theorem d_Directive_readIndex_42 : decode b_Directive_readIndex 42 = .ok (.if_icmp .ne 21, 3) := by decide +kernel
theorem d_Directive_readIndex_45 : decode b_Directive_readIndex 45 = .ok (.aload_n 0, 1) := by decide +kernel
theorem d_Directive_readIndex_46 : decode b_Directive_readIndex 46 = .ok (.iload_n 3, 1) := by decide +kernel
theorem d_Directive_readIndex_47 : decode b_Directive_readIndex 47 = .ok (.putfield 9, 3) := by decide +kernel
theorem d_Directive_readIndex_50 : decode b_Directive_readIndex 50 = .ok (.aload_n 0, 1) := by decide +kernel
theorem d_Directive_readIndex_51 : decode b_Directive_readIndex 51 = .ok (.dup, 1) := by decide +kernel
theorem d_Directive_readIndex_52 : decode b_Directive_readIndex 52 = .ok (.getfield 31, 3) := by decide +kernel
theorem d_Directive_readIndex_55 : decode b_Directive_readIndex 55 = .ok (.iconst 1, 1) := by decide +kernel
theorem d_Directive_readIndex_56 : decode b_Directive_readIndex 56 = .ok (.iadd, 1) := by decide +kernel
theorem d_Directive_readIndex_57 : decode b_Directive_readIndex 57 = .ok (.putfield 31, 3) := by decide +kernel
theorem d_Directive_readIndex_60 : decode b_Directive_readIndex 60 = .ok (.goto 8, 3) := by decide +kernel
theorem d_Directive_readIndex_63 : decode b_Directive_readIndex 63 = .ok (.aload_n 0, 1) := by decide +kernel
theorem d_Directive_readIndex_64 : decode b_Directive_readIndex 64 = .ok (.iload_n 2, 1) := by decide +kernel
theorem d_Directive_readIndex_65 : decode b_Directive_readIndex 65 = .ok (.putfield 31, 3) := by decide +kernel
theorem d_Directive_readIndex_68 : decode b_Directive_readIndex 68 = .ok (.return_, 1) := by decide +kernel
abbrev b_Directive_readPrecision : ByteArray := prog_4_method_14_code
abbrev y_Directive_readPrecision : MethodName := ⟨"DirectivePrinter$Directive", "readPrecision", "(LDirectivePrinter$Row;)V"⟩
def w_Directive_readPrecision : List Cond := .code y_Directive_readPrecision b_Directive_readPrecision 2 none :: lw_g
theorem d_Directive_readPrecision_0 : decode b_Directive_readPrecision 0 = .ok (.aload_n 0, 1) := by decide +kernel
theorem d_Directive_readPrecision_1 : decode b_Directive_readPrecision 1 = .ok (.iconst (-1), 1) := by decide +kernel
theorem d_Directive_readPrecision_2 : decode b_Directive_readPrecision 2 = .ok (.putfield 25, 3) := by decide +kernel
theorem d_Directive_readPrecision_5 : decode b_Directive_readPrecision 5 = .ok (.aload_n 1, 1) := by decide +kernel
theorem d_Directive_readPrecision_6 : decode b_Directive_readPrecision 6 = .ok (.aload_n 0, 1) := by decide +kernel
theorem d_Directive_readPrecision_7 : decode b_Directive_readPrecision 7 = .ok (.getfield 31, 3) := by decide +kernel
theorem d_Directive_readPrecision_10 : decode b_Directive_readPrecision 10 = .ok (.invokevirtual 48, 3) := by decide +kernel
theorem d_Directive_readPrecision_13 : decode b_Directive_readPrecision 13 = .ok (.bipush 46, 2) := by decide +kernel
theorem d_Directive_readPrecision_15 : decode b_Directive_readPrecision 15 = .ok (.if_icmp .ne 38, 3) := by decide +kernel
theorem d_Directive_readPrecision_18 : decode b_Directive_readPrecision 18 = .ok (.aload_n 1, 1) := by decide +kernel
theorem d_Directive_readPrecision_19 : decode b_Directive_readPrecision 19 = .ok (.aload_n 0, 1) := by decide +kernel
theorem d_Directive_readPrecision_20 : decode b_Directive_readPrecision 20 = .ok (.getfield 31, 3) := by decide +kernel
theorem d_Directive_readPrecision_23 : decode b_Directive_readPrecision 23 = .ok (.iconst 1, 1) := by decide +kernel
theorem d_Directive_readPrecision_24 : decode b_Directive_readPrecision 24 = .ok (.iadd, 1) := by decide +kernel
theorem d_Directive_readPrecision_25 : decode b_Directive_readPrecision 25 = .ok (.invokevirtual 48, 3) := by decide +kernel
theorem d_Directive_readPrecision_28 : decode b_Directive_readPrecision 28 = .ok (.invokestatic 87, 3) := by decide +kernel
theorem d_Directive_readPrecision_31 : decode b_Directive_readPrecision 31 = .ok (.ifCond .eq 22, 3) := by decide +kernel
theorem d_Directive_readPrecision_34 : decode b_Directive_readPrecision 34 = .ok (.aload_n 0, 1) := by decide +kernel
theorem d_Directive_readPrecision_35 : decode b_Directive_readPrecision 35 = .ok (.dup, 1) := by decide +kernel
theorem d_Directive_readPrecision_36 : decode b_Directive_readPrecision 36 = .ok (.getfield 31, 3) := by decide +kernel
theorem d_Directive_readPrecision_39 : decode b_Directive_readPrecision 39 = .ok (.iconst 1, 1) := by decide +kernel
theorem d_Directive_readPrecision_40 : decode b_Directive_readPrecision 40 = .ok (.iadd, 1) := by decide +kernel
theorem d_Directive_readPrecision_41 : decode b_Directive_readPrecision 41 = .ok (.putfield 31, 3) := by decide +kernel
theorem d_Directive_readPrecision_44 : decode b_Directive_readPrecision 44 = .ok (.aload_n 0, 1) := by decide +kernel
theorem d_Directive_readPrecision_45 : decode b_Directive_readPrecision 45 = .ok (.aload_n 0, 1) := by decide +kernel
theorem d_Directive_readPrecision_46 : decode b_Directive_readPrecision 46 = .ok (.aload_n 1, 1) := by decide +kernel
theorem d_Directive_readPrecision_47 : decode b_Directive_readPrecision 47 = .ok (.invokevirtual 41, 3) := by decide +kernel
theorem d_Directive_readPrecision_50 : decode b_Directive_readPrecision 50 = .ok (.putfield 25, 3) := by decide +kernel
theorem d_Directive_readPrecision_53 : decode b_Directive_readPrecision 53 = .ok (.return_, 1) := by decide +kernel
abbrev b_Directive_allowedFlags : ByteArray := prog_4_method_11_code
abbrev y_Directive_allowedFlags : MethodName := ⟨"DirectivePrinter$Directive", "allowedFlags", "()I"⟩
def w_Directive_allowedFlags : List Cond := .code y_Directive_allowedFlags b_Directive_allowedFlags 1 (some .int) :: lw_g
theorem d_Directive_allowedFlags_0 : decode b_Directive_allowedFlags 0 = .ok (.aload_n 0, 1) := by decide +kernel
theorem d_Directive_allowedFlags_1 : decode b_Directive_allowedFlags 1 = .ok (.invokevirtual 78, 3) := by decide +kernel
theorem d_Directive_allowedFlags_4 : decode b_Directive_allowedFlags 4 = .ok (.lookupswitch 75 #[(100, 60), (101, 71), (102, 67), (103, 60), (111, 64), (120, 64)], 60) := by decide +kernel
theorem d_Directive_allowedFlags_64 : decode b_Directive_allowedFlags 64 = .ok (.sipush 253, 3) := by decide +kernel
theorem d_Directive_allowedFlags_67 : decode b_Directive_allowedFlags 67 = .ok (.ireturn, 1) := by decide +kernel
theorem d_Directive_allowedFlags_68 : decode b_Directive_allowedFlags 68 = .ok (.bipush 75, 2) := by decide +kernel
theorem d_Directive_allowedFlags_70 : decode b_Directive_allowedFlags 70 = .ok (.ireturn, 1) := by decide +kernel
theorem d_Directive_allowedFlags_71 : decode b_Directive_allowedFlags 71 = .ok (.sipush 255, 3) := by decide +kernel
theorem d_Directive_allowedFlags_74 : decode b_Directive_allowedFlags 74 = .ok (.ireturn, 1) := by decide +kernel
theorem d_Directive_allowedFlags_75 : decode b_Directive_allowedFlags 75 = .ok (.sipush 239, 3) := by decide +kernel
theorem d_Directive_allowedFlags_78 : decode b_Directive_allowedFlags 78 = .ok (.ireturn, 1) := by decide +kernel
theorem d_Directive_allowedFlags_79 : decode b_Directive_allowedFlags 79 = .ok (.bipush 65, 2) := by decide +kernel
theorem d_Directive_allowedFlags_81 : decode b_Directive_allowedFlags 81 = .ok (.ireturn, 1) := by decide +kernel
abbrev b_Directive_faultOfFlags : ByteArray := prog_4_method_10_code
abbrev y_Directive_faultOfFlags : MethodName := ⟨"DirectivePrinter$Directive", "faultOfFlags", "()I"⟩
def w_Directive_faultOfFlags : List Cond := .code y_Directive_faultOfFlags b_Directive_faultOfFlags 1 (some .int) :: lw_g
theorem d_Directive_faultOfFlags_0 : decode b_Directive_faultOfFlags 0 = .ok (.aload_n 0, 1) := by decide +kernel
theorem d_Directive_faultOfFlags_1 : decode b_Directive_faultOfFlags 1 = .ok (.getfield 15, 3) := by decide +kernel
theorem d_Directive_faultOfFlags_4 : decode b_Directive_faultOfFlags 4 = .ok (.aload_n 0, 1) := by decide +kernel
theorem d_Directive_faultOfFlags_5 : decode b_Directive_faultOfFlags 5 = .ok (.invokevirtual 71, 3) := by decide +kernel
theorem d_Directive_faultOfFlags_8 : decode b_Directive_faultOfFlags 8 = .ok (.iconst (-1), 1) := by decide +kernel
theorem d_Directive_faultOfFlags_9 : decode b_Directive_faultOfFlags 9 = .ok (.ixor, 1) := by decide +kernel
theorem d_Directive_faultOfFlags_10 : decode b_Directive_faultOfFlags 10 = .ok (.iand, 1) := by decide +kernel
theorem d_Directive_faultOfFlags_11 : decode b_Directive_faultOfFlags 11 = .ok (.ifCond .eq 6, 3) := by decide +kernel
theorem d_Directive_faultOfFlags_14 : decode b_Directive_faultOfFlags 14 = .ok (.bipush 6, 2) := by decide +kernel
theorem d_Directive_faultOfFlags_16 : decode b_Directive_faultOfFlags 16 = .ok (.ireturn, 1) := by decide +kernel
theorem d_Directive_faultOfFlags_17 : decode b_Directive_faultOfFlags 17 = .ok (.aload_n 0, 1) := by decide +kernel
theorem d_Directive_faultOfFlags_18 : decode b_Directive_faultOfFlags 18 = .ok (.getfield 22, 3) := by decide +kernel
theorem d_Directive_faultOfFlags_21 : decode b_Directive_faultOfFlags 21 = .ok (.iconst (-1), 1) := by decide +kernel
theorem d_Directive_faultOfFlags_22 : decode b_Directive_faultOfFlags 22 = .ok (.if_icmp .ne 23, 3) := by decide +kernel
theorem d_Directive_faultOfFlags_25 : decode b_Directive_faultOfFlags 25 = .ok (.aload_n 0, 1) := by decide +kernel
theorem d_Directive_faultOfFlags_26 : decode b_Directive_faultOfFlags 26 = .ok (.iconst 1, 1) := by decide +kernel
theorem d_Directive_faultOfFlags_27 : decode b_Directive_faultOfFlags 27 = .ok (.invokevirtual 74, 3) := by decide +kernel
theorem d_Directive_faultOfFlags_30 : decode b_Directive_faultOfFlags 30 = .ok (.ifCond .ne 12, 3) := by decide +kernel
theorem d_Directive_faultOfFlags_33 : decode b_Directive_faultOfFlags 33 = .ok (.aload_n 0, 1) := by decide +kernel
theorem d_Directive_faultOfFlags_34 : decode b_Directive_faultOfFlags 34 = .ok (.bipush 8, 2) := by decide +kernel
theorem d_Directive_faultOfFlags_36 : decode b_Directive_faultOfFlags 36 = .ok (.invokevirtual 74, 3) := by decide +kernel
theorem d_Directive_faultOfFlags_39 : decode b_Directive_faultOfFlags 39 = .ok (.ifCond .eq 6, 3) := by decide +kernel
theorem d_Directive_faultOfFlags_42 : decode b_Directive_faultOfFlags 42 = .ok (.bipush 7, 2) := by decide +kernel
theorem d_Directive_faultOfFlags_44 : decode b_Directive_faultOfFlags 44 = .ok (.ireturn, 1) := by decide +kernel
theorem d_Directive_faultOfFlags_45 : decode b_Directive_faultOfFlags 45 = .ok (.aload_n 0, 1) := by decide +kernel
theorem d_Directive_faultOfFlags_46 : decode b_Directive_faultOfFlags 46 = .ok (.iconst 1, 1) := by decide +kernel
theorem d_Directive_faultOfFlags_47 : decode b_Directive_faultOfFlags 47 = .ok (.invokevirtual 74, 3) := by decide +kernel
theorem d_Directive_faultOfFlags_50 : decode b_Directive_faultOfFlags 50 = .ok (.ifCond .eq 12, 3) := by decide +kernel
theorem d_Directive_faultOfFlags_53 : decode b_Directive_faultOfFlags 53 = .ok (.aload_n 0, 1) := by decide +kernel
theorem d_Directive_faultOfFlags_54 : decode b_Directive_faultOfFlags 54 = .ok (.bipush 8, 2) := by decide +kernel
theorem d_Directive_faultOfFlags_56 : decode b_Directive_faultOfFlags 56 = .ok (.invokevirtual 74, 3) := by decide +kernel
theorem d_Directive_faultOfFlags_59 : decode b_Directive_faultOfFlags 59 = .ok (.ifCond .ne 21, 3) := by decide +kernel
theorem d_Directive_faultOfFlags_62 : decode b_Directive_faultOfFlags 62 = .ok (.aload_n 0, 1) := by decide +kernel
theorem d_Directive_faultOfFlags_63 : decode b_Directive_faultOfFlags 63 = .ok (.iconst 4, 1) := by decide +kernel
theorem d_Directive_faultOfFlags_64 : decode b_Directive_faultOfFlags 64 = .ok (.invokevirtual 74, 3) := by decide +kernel
theorem d_Directive_faultOfFlags_67 : decode b_Directive_faultOfFlags 67 = .ok (.ifCond .eq 16, 3) := by decide +kernel
theorem d_Directive_faultOfFlags_70 : decode b_Directive_faultOfFlags 70 = .ok (.aload_n 0, 1) := by decide +kernel
theorem d_Directive_faultOfFlags_71 : decode b_Directive_faultOfFlags 71 = .ok (.sipush 128, 3) := by decide +kernel
theorem d_Directive_faultOfFlags_74 : decode b_Directive_faultOfFlags 74 = .ok (.invokevirtual 74, 3) := by decide +kernel
theorem d_Directive_faultOfFlags_77 : decode b_Directive_faultOfFlags 77 = .ok (.ifCond .eq 6, 3) := by decide +kernel
theorem d_Directive_faultOfFlags_80 : decode b_Directive_faultOfFlags 80 = .ok (.bipush 8, 2) := by decide +kernel
theorem d_Directive_faultOfFlags_82 : decode b_Directive_faultOfFlags 82 = .ok (.ireturn, 1) := by decide +kernel
theorem d_Directive_faultOfFlags_83 : decode b_Directive_faultOfFlags 83 = .ok (.iconst 0, 1) := by decide +kernel
theorem d_Directive_faultOfFlags_84 : decode b_Directive_faultOfFlags 84 = .ok (.ireturn, 1) := by decide +kernel
set_option maxRecDepth 100000 in
theorem q_146 : (.fieldLink "DirectivePrinter$Directive" 31 "DirectivePrinter$Directive" "next" "I" : Cond) ∈ lw_g := List.mem_filter.mpr ⟨List.mem_of_getElem? (i := 146) (by decide +kernel), by decide +kernel⟩
set_option maxRecDepth 100000 in
theorem q_139 : (.fieldLink "DirectivePrinter$Directive" 15 "DirectivePrinter$Directive" "flags" "I" : Cond) ∈ lw_g := List.mem_filter.mpr ⟨List.mem_of_getElem? (i := 139) (by decide +kernel), by decide +kernel⟩
set_option maxRecDepth 100000 in
theorem q_145 : (.fieldLink "DirectivePrinter$Directive" 28 "DirectivePrinter$Directive" "conversion" "I" : Cond) ∈ lw_g := List.mem_filter.mpr ⟨List.mem_of_getElem? (i := 145) (by decide +kernel), by decide +kernel⟩
set_option maxRecDepth 100000 in
theorem q_415 : (.methodLink "DirectivePrinter$Directive" 54 ⟨"DirectivePrinter$Directive", "isLarge", "()Z"⟩ : Cond) ∈ lw_g := List.mem_filter.mpr ⟨List.mem_of_getElem? (i := 415) (by decide +kernel), by decide +kernel⟩
set_option maxRecDepth 100000 in
theorem q_416 : (.instanceMethod ⟨"DirectivePrinter$Directive", "isLarge", "()Z"⟩ : Cond) ∈ lw_g := List.mem_filter.mpr ⟨List.mem_of_getElem? (i := 416) (by decide +kernel), by decide +kernel⟩
set_option maxRecDepth 100000 in
theorem q_417 : (.selects "DirectivePrinter$Directive" ⟨"DirectivePrinter$Directive", "isLarge", "()Z"⟩ ⟨"DirectivePrinter$Directive", "isLarge", "()Z"⟩ : Cond) ∈ lw_g := List.mem_filter.mpr ⟨List.mem_of_getElem? (i := 417) (by decide +kernel), by decide +kernel⟩
set_option maxRecDepth 100000 in
theorem q_60 : (.initialized "DirectivePrinter$Directive" : Cond) ∈ lw_g := List.mem_filter.mpr ⟨List.mem_of_getElem? (i := 60) (by decide +kernel), by decide +kernel⟩
set_option maxRecDepth 100000 in
theorem q_418 : (.code ⟨"DirectivePrinter$Directive", "isLarge", "()Z"⟩ prog_4_method_6_code 1 (Option.some FieldType.boolean) : Cond) ∈ lw_g := List.mem_filter.mpr ⟨List.mem_of_getElem? (i := 418) (rfl), by decide +kernel⟩
set_option maxRecDepth 100000 in
theorem q_143 : (.fieldLink "DirectivePrinter$Directive" 25 "DirectivePrinter$Directive" "precision" "I" : Cond) ∈ lw_g := List.mem_filter.mpr ⟨List.mem_of_getElem? (i := 143) (by decide +kernel), by decide +kernel⟩
set_option maxRecDepth 100000 in
theorem q_294 : (.methodLink "DirectivePrinter$Directive" 82 ⟨"DirectivePrinter$Row", "size", "()I"⟩ : Cond) ∈ lw_g := List.mem_filter.mpr ⟨List.mem_of_getElem? (i := 294) (by decide +kernel), by decide +kernel⟩
set_option maxRecDepth 100000 in
theorem q_243 : (.instanceMethod ⟨"DirectivePrinter$Row", "size", "()I"⟩ : Cond) ∈ lw_g := List.mem_filter.mpr ⟨List.mem_of_getElem? (i := 243) (by decide +kernel), by decide +kernel⟩
set_option maxRecDepth 100000 in
theorem q_244 : (.selects "DirectivePrinter$Row" ⟨"DirectivePrinter$Row", "size", "()I"⟩ ⟨"DirectivePrinter$Row", "size", "()I"⟩ : Cond) ∈ lw_g := List.mem_filter.mpr ⟨List.mem_of_getElem? (i := 244) (by decide +kernel), by decide +kernel⟩
set_option maxRecDepth 100000 in
theorem q_245 : (.code ⟨"DirectivePrinter$Row", "size", "()I"⟩ prog_7_method_2_code 1 (Option.some FieldType.int) : Cond) ∈ lw_g := List.mem_filter.mpr ⟨List.mem_of_getElem? (i := 245) (rfl), by decide +kernel⟩
set_option maxRecDepth 100000 in
theorem q_289 : (.methodLink "DirectivePrinter$Directive" 48 ⟨"DirectivePrinter$Row", "at", "(I)I"⟩ : Cond) ∈ lw_g := List.mem_filter.mpr ⟨List.mem_of_getElem? (i := 289) (by decide +kernel), by decide +kernel⟩
set_option maxRecDepth 100000 in
theorem q_274 : (.instanceMethod ⟨"DirectivePrinter$Row", "at", "(I)I"⟩ : Cond) ∈ lw_g := List.mem_filter.mpr ⟨List.mem_of_getElem? (i := 274) (by decide +kernel), by decide +kernel⟩
set_option maxRecDepth 100000 in
theorem q_275 : (.selects "DirectivePrinter$Row" ⟨"DirectivePrinter$Row", "at", "(I)I"⟩ ⟨"DirectivePrinter$Row", "at", "(I)I"⟩ : Cond) ∈ lw_g := List.mem_filter.mpr ⟨List.mem_of_getElem? (i := 275) (by decide +kernel), by decide +kernel⟩
set_option maxRecDepth 100000 in
theorem q_276 : (.code ⟨"DirectivePrinter$Row", "at", "(I)I"⟩ prog_7_method_3_code 2 (Option.some FieldType.int) : Cond) ∈ lw_g := List.mem_filter.mpr ⟨List.mem_of_getElem? (i := 276) (rfl), by decide +kernel⟩
set_option maxRecDepth 100000 in
theorem q_295 : (.methodLink "DirectivePrinter$Directive" 87 ⟨"DirectivePrinter$Directive", "isDigit", "(I)Z"⟩ : Cond) ∈ lw_g := List.mem_filter.mpr ⟨List.mem_of_getElem? (i := 295) (by decide +kernel), by decide +kernel⟩
set_option maxRecDepth 100000 in
theorem q_296 : (.static ⟨"DirectivePrinter$Directive", "isDigit", "(I)Z"⟩ : Cond) ∈ lw_g := List.mem_filter.mpr ⟨List.mem_of_getElem? (i := 296) (by decide +kernel), by decide +kernel⟩
set_option maxRecDepth 100000 in
theorem q_297 : (.code ⟨"DirectivePrinter$Directive", "isDigit", "(I)Z"⟩ prog_4_method_16_code 1 (Option.some FieldType.boolean) : Cond) ∈ lw_g := List.mem_filter.mpr ⟨List.mem_of_getElem? (i := 297) (rfl), by decide +kernel⟩
set_option maxRecDepth 100000 in
theorem q_298 : (.methodLink "DirectivePrinter$Directive" 90 ⟨"java/lang/Math", "max", "(II)I"⟩ : Cond) ∈ lw_g := List.mem_filter.mpr ⟨List.mem_of_getElem? (i := 298) (by decide +kernel), by decide +kernel⟩
set_option maxRecDepth 100000 in
theorem q_299 : (.methodLink "DirectivePrinter$Directive" 96 ⟨"java/lang/Math", "min", "(II)I"⟩ : Cond) ∈ lw_g := List.mem_filter.mpr ⟨List.mem_of_getElem? (i := 299) (by decide +kernel), by decide +kernel⟩
set_option maxRecDepth 100000 in
theorem q_137 : (.fieldLink "DirectivePrinter$Directive" 9 "DirectivePrinter$Directive" "index" "I" : Cond) ∈ lw_g := List.mem_filter.mpr ⟨List.mem_of_getElem? (i := 137) (by decide +kernel), by decide +kernel⟩
set_option maxRecDepth 100000 in
theorem q_290 : (.methodLink "DirectivePrinter$Directive" 41 ⟨"DirectivePrinter$Directive", "readNumber", "(LDirectivePrinter$Row;)I"⟩ : Cond) ∈ lw_g := List.mem_filter.mpr ⟨List.mem_of_getElem? (i := 290) (by decide +kernel), by decide +kernel⟩
set_option maxRecDepth 100000 in
theorem q_292 : (.instanceMethod ⟨"DirectivePrinter$Directive", "readNumber", "(LDirectivePrinter$Row;)I"⟩ : Cond) ∈ lw_g := List.mem_filter.mpr ⟨List.mem_of_getElem? (i := 292) (by decide +kernel), by decide +kernel⟩
set_option maxRecDepth 100000 in
theorem q_3 : (.selects "DirectivePrinter$Directive" ⟨"DirectivePrinter$Directive", "readNumber", "(LDirectivePrinter$Row;)I"⟩ ⟨"DirectivePrinter$Directive", "readNumber", "(LDirectivePrinter$Row;)I"⟩ : Cond) ∈ lw_g := List.mem_filter.mpr ⟨List.mem_of_getElem? (i := 3) (by decide +kernel), by decide +kernel⟩
set_option maxRecDepth 100000 in
theorem q_293 : (.code ⟨"DirectivePrinter$Directive", "readNumber", "(LDirectivePrinter$Row;)I"⟩ prog_4_method_15_code 5 (Option.some FieldType.int) : Cond) ∈ lw_g := List.mem_filter.mpr ⟨List.mem_of_getElem? (i := 293) (rfl), by decide +kernel⟩
set_option maxRecDepth 100000 in
theorem q_411 : (.methodLink "DirectivePrinter$Directive" 78 ⟨"DirectivePrinter$Directive", "smallConversion", "()C"⟩ : Cond) ∈ lw_g := List.mem_filter.mpr ⟨List.mem_of_getElem? (i := 411) (by decide +kernel), by decide +kernel⟩
set_option maxRecDepth 100000 in
theorem q_412 : (.instanceMethod ⟨"DirectivePrinter$Directive", "smallConversion", "()C"⟩ : Cond) ∈ lw_g := List.mem_filter.mpr ⟨List.mem_of_getElem? (i := 412) (by decide +kernel), by decide +kernel⟩
set_option maxRecDepth 100000 in
theorem q_413 : (.selects "DirectivePrinter$Directive" ⟨"DirectivePrinter$Directive", "smallConversion", "()C"⟩ ⟨"DirectivePrinter$Directive", "smallConversion", "()C"⟩ : Cond) ∈ lw_g := List.mem_filter.mpr ⟨List.mem_of_getElem? (i := 413) (by decide +kernel), by decide +kernel⟩
set_option maxRecDepth 100000 in
theorem q_414 : (.code ⟨"DirectivePrinter$Directive", "smallConversion", "()C"⟩ prog_4_method_7_code 1 (Option.some FieldType.char) : Cond) ∈ lw_g := List.mem_filter.mpr ⟨List.mem_of_getElem? (i := 414) (rfl), by decide +kernel⟩
set_option maxRecDepth 100000 in
theorem q_407 : (.methodLink "DirectivePrinter$Directive" 71 ⟨"DirectivePrinter$Directive", "allowedFlags", "()I"⟩ : Cond) ∈ lw_g := List.mem_filter.mpr ⟨List.mem_of_getElem? (i := 407) (by decide +kernel), by decide +kernel⟩
set_option maxRecDepth 100000 in
theorem q_409 : (.instanceMethod ⟨"DirectivePrinter$Directive", "allowedFlags", "()I"⟩ : Cond) ∈ lw_g := List.mem_filter.mpr ⟨List.mem_of_getElem? (i := 409) (by decide +kernel), by decide +kernel⟩
set_option maxRecDepth 100000 in
theorem q_7 : (.selects "DirectivePrinter$Directive" ⟨"DirectivePrinter$Directive", "allowedFlags", "()I"⟩ ⟨"DirectivePrinter$Directive", "allowedFlags", "()I"⟩ : Cond) ∈ lw_g := List.mem_filter.mpr ⟨List.mem_of_getElem? (i := 7) (by decide +kernel), by decide +kernel⟩
set_option maxRecDepth 100000 in
theorem q_410 : (.code ⟨"DirectivePrinter$Directive", "allowedFlags", "()I"⟩ prog_4_method_11_code 1 (Option.some FieldType.int) : Cond) ∈ lw_g := List.mem_filter.mpr ⟨List.mem_of_getElem? (i := 410) (rfl), by decide +kernel⟩
set_option maxRecDepth 100000 in
theorem q_141 : (.fieldLink "DirectivePrinter$Directive" 22 "DirectivePrinter$Directive" "width" "I" : Cond) ∈ lw_g := List.mem_filter.mpr ⟨List.mem_of_getElem? (i := 141) (by decide +kernel), by decide +kernel⟩
set_option maxRecDepth 100000 in
theorem q_389 : (.methodLink "DirectivePrinter$Directive" 74 ⟨"DirectivePrinter$Directive", "has", "(I)Z"⟩ : Cond) ∈ lw_g := List.mem_filter.mpr ⟨List.mem_of_getElem? (i := 389) (by decide +kernel), by decide +kernel⟩
set_option maxRecDepth 100000 in
theorem q_390 : (.instanceMethod ⟨"DirectivePrinter$Directive", "has", "(I)Z"⟩ : Cond) ∈ lw_g := List.mem_filter.mpr ⟨List.mem_of_getElem? (i := 390) (by decide +kernel), by decide +kernel⟩
set_option maxRecDepth 100000 in
theorem q_391 : (.selects "DirectivePrinter$Directive" ⟨"DirectivePrinter$Directive", "has", "(I)Z"⟩ ⟨"DirectivePrinter$Directive", "has", "(I)Z"⟩ : Cond) ∈ lw_g := List.mem_filter.mpr ⟨List.mem_of_getElem? (i := 391) (by decide +kernel), by decide +kernel⟩
set_option maxRecDepth 100000 in
theorem q_392 : (.code ⟨"DirectivePrinter$Directive", "has", "(I)Z"⟩ prog_4_method_4_code 2 (Option.some FieldType.boolean) : Cond) ∈ lw_g := List.mem_filter.mpr ⟨List.mem_of_getElem? (i := 392) (rfl), by decide +kernel⟩
/-! DirectivePrinter$Directive.last()I -/
def f_Directive_last (d_next : Int32) : Option (Int32) := some (d_next)
abbrev r_Directive_last : Room := { frames := 0, cells := 0, slots := 0, locals := 0 }
set_option maxHeartbeats 4000000 in
set_option maxRecDepth 100000 in
theorem c_Directive_last (l : Launch) {Z : (Nat → Prop) → State → Heap → Prop} {ad adK adV : Nat → Nat} (Zo : mm_Zx Z ad adK adV) (dC : Nat → ClassId) (dI : Nat → Nat → Nat) (cC cI cJ cQ : ClassId) (d_index : Int32) (d_flags : Int32) (d_flagTwice : Int32) (d_width : Int32) (d_precision : Int32) (d_conversion : Int32) (d_next : Int32) (h_d : Nat) (sz : Nat) (out : Int32) (hf : f_Directive_last d_next = some out) : Met l y_Directive_last w_Directive_last r_Directive_last (mm_pre (dC, dI) vwC (tyl cC cI cJ cQ) Z [(h_d, .inr (2, [.int d_index, .int d_flags, .int d_flagTwice, .int d_width, .int d_precision, .int d_conversion, .int d_next]))] sz [.ref h_d]) (mm_qi (dC, dI) vwC (tyl cC cI cJ cQ) (va_A [(h_d, .inr (2, [.int d_index, .int d_flags, .int d_flagTwice, .int d_width, .int d_precision, .int d_conversion, .int d_next]))] sz) [(h_d, .inr (2, [.int d_index, .int d_flags, .int d_flagTwice, .int d_width, .int d_precision, .int d_conversion, .int d_next]))] out) 0 0 (va_A [(h_d, .inr (2, [.int d_index, .int d_flags, .int d_flagTwice, .int d_width, .int d_precision, .int d_conversion, .int d_next]))] sz) := by
  refine mm_of (own := "DirectivePrinter$Directive") (cc := b_Directive_last) (maxL := 1) (ret := (some .int)) (by decide) rfl rfl ?_
  intro p e s m below meth c hsz C0 hw hname
  generalize (va_A [(h_d, .inr (2, [.int d_index, .int d_flags, .int d_flagTwice, .int d_width, .int d_precision, .int d_conversion, .int d_next]))] sz) = A at C0 hw ⊢
  have hl := lv_entry ([.ref h_d]) (n := 1) (Nat.le_of_ble_eq_true rfl)
  rw [lg_entry_eq]
  generalize (lg_sl ([.ref h_d]) ++ List.replicate (1 - (lg_sl ([.ref h_d])).length) Slot.unset).toArray = ls at hl ⊢
  have hl : lv_has ls 1 [(0, .ref h_d)] := hl
  obtain ⟨hx, hb, hr, hml, hown, hts, hlocks, hK, hZ, hA⟩ := id C0
  generalize s.heap = H at hw ⊢
  unfold f_Directive_last at hf
  refine lv_aload_n hx hb d_Directive_last_0 rfl (lv_at hl 0 rfl) ?_
  refine va_get (D := (dC, dI)) (ci := 2) (v := .int d_next) (C := "DirectivePrinter$Directive") (T := T_Directive) (N := 7) hx hb hts (mm_up i_Directive) hown hK hw.1 0 rfl rfl 6 (by decide) (hts _ (List.mem_cons_of_mem _ q_146)) (fun _ h9 => h9) rfl d_Directive_last_1 ?_
  obtain rfl := Option.some.inj hf
  exact mm_iret hx hb hr hlocks hK (mm_wsub hw [0] (by decide) rfl rfl) rfl d_Directive_last_4
/-! DirectivePrinter$Directive.has(I)Z -/
def f_Directive_has (d_flags : Int32) (flag : Int32) : Option (Int32) := (if (d_flags &&& flag) = 0 then some ((0 : Int32)) else some ((1 : Int32)))
abbrev r_Directive_has : Room := { frames := 0, cells := 0, slots := 0, locals := 0 }
set_option maxHeartbeats 4000000 in
set_option maxRecDepth 100000 in
theorem c_Directive_has (l : Launch) {Z : (Nat → Prop) → State → Heap → Prop} {ad adK adV : Nat → Nat} (Zo : mm_Zx Z ad adK adV) (dC : Nat → ClassId) (dI : Nat → Nat → Nat) (cC cI cJ cQ : ClassId) (d_index : Int32) (d_flags : Int32) (d_flagTwice : Int32) (d_width : Int32) (d_precision : Int32) (d_conversion : Int32) (d_next : Int32) (flag : Int32) (h_d : Nat) (sz : Nat) (out : Int32) (hf : f_Directive_has d_flags flag = some out) : Met l y_Directive_has w_Directive_has r_Directive_has (mm_pre (dC, dI) vwC (tyl cC cI cJ cQ) Z [(h_d, .inr (2, [.int d_index, .int d_flags, .int d_flagTwice, .int d_width, .int d_precision, .int d_conversion, .int d_next]))] sz [.ref h_d, .int flag]) (mm_qi (dC, dI) vwC (tyl cC cI cJ cQ) (va_A [(h_d, .inr (2, [.int d_index, .int d_flags, .int d_flagTwice, .int d_width, .int d_precision, .int d_conversion, .int d_next]))] sz) [(h_d, .inr (2, [.int d_index, .int d_flags, .int d_flagTwice, .int d_width, .int d_precision, .int d_conversion, .int d_next]))] out) 0 0 (va_A [(h_d, .inr (2, [.int d_index, .int d_flags, .int d_flagTwice, .int d_width, .int d_precision, .int d_conversion, .int d_next]))] sz) := by
  refine mm_of (own := "DirectivePrinter$Directive") (cc := b_Directive_has) (maxL := 2) (ret := (some .boolean)) (by decide) rfl rfl ?_
  intro p e s m below meth c hsz C0 hw hname
  generalize (va_A [(h_d, .inr (2, [.int d_index, .int d_flags, .int d_flagTwice, .int d_width, .int d_precision, .int d_conversion, .int d_next]))] sz) = A at C0 hw ⊢
  have hl := lv_entry ([.ref h_d, .int flag]) (n := 2) (Nat.le_of_ble_eq_true rfl)
  rw [lg_entry_eq]
  generalize (lg_sl ([.ref h_d, .int flag]) ++ List.replicate (2 - (lg_sl ([.ref h_d, .int flag])).length) Slot.unset).toArray = ls at hl ⊢
  have hl : lv_has ls 2 [(0, .ref h_d), (1, .int flag)] := hl
  obtain ⟨hx, hb, hr, hml, hown, hts, hlocks, hK, hZ, hA⟩ := id C0
  generalize s.heap = H at hw ⊢
  unfold f_Directive_has at hf
  refine lv_aload_n hx hb d_Directive_has_0 rfl (lv_at hl 0 rfl) ?_
  refine va_get (D := (dC, dI)) (ci := 2) (v := .int d_flags) (C := "DirectivePrinter$Directive") (T := T_Directive) (N := 7) hx hb hts (mm_up i_Directive) hown hK hw.1 0 rfl rfl 1 (by decide) (hts _ (List.mem_cons_of_mem _ q_139)) (fun _ h9 => h9) rfl d_Directive_has_1 ?_
  refine lv_iload_n hx hb d_Directive_has_4 rfl (lv_at hl 1 rfl) ?_
  refine lv_iand hx hb d_Directive_has_5 ?_
  refine lv_if_eq (tgt := 13) hx hb d_Directive_has_6 (by decide) (fun hc => ?_) (fun hc => ?_)
  · replace hf := mm_ip hc hf
    refine lv_iconst (v := (0 : Int32)) hx hb d_Directive_has_13 (by decide) ?_
    obtain rfl := Option.some.inj hf
    exact mm_zret hx hb hr hlocks hK (by decide) (mm_wsub hw [0] (by decide) rfl rfl) rfl d_Directive_has_14
  · replace hf := mm_in hc hf
    refine lv_iconst (v := (1 : Int32)) hx hb d_Directive_has_9 (by decide) ?_
    refine lv_goto (tgt := 14) hx hb d_Directive_has_10 (by decide) ?_
    obtain rfl := Option.some.inj hf
    exact mm_zret hx hb hr hlocks hK (by decide) (mm_wsub hw [0] (by decide) rfl rfl) rfl d_Directive_has_14
/-! DirectivePrinter$Directive.takesArgument()Z -/
def f_Directive_takesArgument (d_conversion : Int32) : Option (Int32) := (if d_conversion = (37 : Int32) then some ((0 : Int32)) else (if d_conversion = (110 : Int32) then some ((0 : Int32)) else some ((1 : Int32))))
abbrev r_Directive_takesArgument : Room := { frames := 0, cells := 0, slots := 0, locals := 0 }
set_option maxHeartbeats 4000000 in
set_option maxRecDepth 100000 in
theorem c_Directive_takesArgument (l : Launch) {Z : (Nat → Prop) → State → Heap → Prop} {ad adK adV : Nat → Nat} (Zo : mm_Zx Z ad adK adV) (dC : Nat → ClassId) (dI : Nat → Nat → Nat) (cC cI cJ cQ : ClassId) (d_index : Int32) (d_flags : Int32) (d_flagTwice : Int32) (d_width : Int32) (d_precision : Int32) (d_conversion : Int32) (d_next : Int32) (h_d : Nat) (sz : Nat) (out : Int32) (hf : f_Directive_takesArgument d_conversion = some out) : Met l y_Directive_takesArgument w_Directive_takesArgument r_Directive_takesArgument (mm_pre (dC, dI) vwC (tyl cC cI cJ cQ) Z [(h_d, .inr (2, [.int d_index, .int d_flags, .int d_flagTwice, .int d_width, .int d_precision, .int d_conversion, .int d_next]))] sz [.ref h_d]) (mm_qi (dC, dI) vwC (tyl cC cI cJ cQ) (va_A [(h_d, .inr (2, [.int d_index, .int d_flags, .int d_flagTwice, .int d_width, .int d_precision, .int d_conversion, .int d_next]))] sz) [(h_d, .inr (2, [.int d_index, .int d_flags, .int d_flagTwice, .int d_width, .int d_precision, .int d_conversion, .int d_next]))] out) 0 0 (va_A [(h_d, .inr (2, [.int d_index, .int d_flags, .int d_flagTwice, .int d_width, .int d_precision, .int d_conversion, .int d_next]))] sz) := by
  refine mm_of (own := "DirectivePrinter$Directive") (cc := b_Directive_takesArgument) (maxL := 1) (ret := (some .boolean)) (by decide) rfl rfl ?_
  intro p e s m below meth c hsz C0 hw hname
  generalize (va_A [(h_d, .inr (2, [.int d_index, .int d_flags, .int d_flagTwice, .int d_width, .int d_precision, .int d_conversion, .int d_next]))] sz) = A at C0 hw ⊢
  have hl := lv_entry ([.ref h_d]) (n := 1) (Nat.le_of_ble_eq_true rfl)
  rw [lg_entry_eq]
  generalize (lg_sl ([.ref h_d]) ++ List.replicate (1 - (lg_sl ([.ref h_d])).length) Slot.unset).toArray = ls at hl ⊢
  have hl : lv_has ls 1 [(0, .ref h_d)] := hl
  obtain ⟨hx, hb, hr, hml, hown, hts, hlocks, hK, hZ, hA⟩ := id C0
  generalize s.heap = H at hw ⊢
  unfold f_Directive_takesArgument at hf
  refine lv_aload_n hx hb d_Directive_takesArgument_0 rfl (lv_at hl 0 rfl) ?_
  refine va_get (D := (dC, dI)) (ci := 2) (v := .int d_conversion) (C := "DirectivePrinter$Directive") (T := T_Directive) (N := 7) hx hb hts (mm_up i_Directive) hown hK hw.1 0 rfl rfl 5 (by decide) (hts _ (List.mem_cons_of_mem _ q_145)) (fun _ h9 => h9) rfl d_Directive_takesArgument_1 ?_
  refine lv_bipush (v := (37 : Int32)) hx hb d_Directive_takesArgument_4 (by decide) ?_
  refine lv_icmp_eq (tgt := 22) hx hb d_Directive_takesArgument_6 (by decide) (fun hc => ?_) (fun hc => ?_)
  · replace hf := mm_ip hc hf
    refine lv_iconst (v := (0 : Int32)) hx hb d_Directive_takesArgument_22 (by decide) ?_
    obtain rfl := Option.some.inj hf
    exact mm_zret hx hb hr hlocks hK (by decide) (mm_wsub hw [0] (by decide) rfl rfl) rfl d_Directive_takesArgument_23
  · replace hf := mm_in hc hf
    refine lv_aload_n hx hb d_Directive_takesArgument_9 rfl (lv_at hl 0 rfl) ?_
    refine va_get (D := (dC, dI)) (ci := 2) (v := .int d_conversion) (C := "DirectivePrinter$Directive") (T := T_Directive) (N := 7) hx hb hts (mm_up i_Directive) hown hK hw.1 0 rfl rfl 5 (by decide) (hts _ (List.mem_cons_of_mem _ q_145)) (fun _ h9 => h9) rfl d_Directive_takesArgument_10 ?_
    refine lv_bipush (v := (110 : Int32)) hx hb d_Directive_takesArgument_13 (by decide) ?_
    refine lv_icmp_eq (tgt := 22) hx hb d_Directive_takesArgument_15 (by decide) (fun hc => ?_) (fun hc => ?_)
    · replace hf := mm_ip hc hf
      refine lv_iconst (v := (0 : Int32)) hx hb d_Directive_takesArgument_22 (by decide) ?_
      obtain rfl := Option.some.inj hf
      exact mm_zret hx hb hr hlocks hK (by decide) (mm_wsub hw [0] (by decide) rfl rfl) rfl d_Directive_takesArgument_23
    · replace hf := mm_in hc hf
      refine lv_iconst (v := (1 : Int32)) hx hb d_Directive_takesArgument_18 (by decide) ?_
      refine lv_goto (tgt := 23) hx hb d_Directive_takesArgument_19 (by decide) ?_
      obtain rfl := Option.some.inj hf
      exact mm_zret hx hb hr hlocks hK (by decide) (mm_wsub hw [0] (by decide) rfl rfl) rfl d_Directive_takesArgument_23
/-! DirectivePrinter$Directive.isLarge()Z -/
def f_Directive_isLarge (d_conversion : Int32) : Option (Int32) := (if d_conversion < (65 : Int32) then some ((0 : Int32)) else (if (90 : Int32) < d_conversion then some ((0 : Int32)) else some ((1 : Int32))))
abbrev r_Directive_isLarge : Room := { frames := 0, cells := 0, slots := 0, locals := 0 }
set_option maxHeartbeats 4000000 in
set_option maxRecDepth 100000 in
theorem c_Directive_isLarge (l : Launch) {Z : (Nat → Prop) → State → Heap → Prop} {ad adK adV : Nat → Nat} (Zo : mm_Zx Z ad adK adV) (dC : Nat → ClassId) (dI : Nat → Nat → Nat) (cC cI cJ cQ : ClassId) (d_index : Int32) (d_flags : Int32) (d_flagTwice : Int32) (d_width : Int32) (d_precision : Int32) (d_conversion : Int32) (d_next : Int32) (h_d : Nat) (sz : Nat) (out : Int32) (hf : f_Directive_isLarge d_conversion = some out) : Met l y_Directive_isLarge w_Directive_isLarge r_Directive_isLarge (mm_pre (dC, dI) vwC (tyl cC cI cJ cQ) Z [(h_d, .inr (2, [.int d_index, .int d_flags, .int d_flagTwice, .int d_width, .int d_precision, .int d_conversion, .int d_next]))] sz [.ref h_d]) (mm_qi (dC, dI) vwC (tyl cC cI cJ cQ) (va_A [(h_d, .inr (2, [.int d_index, .int d_flags, .int d_flagTwice, .int d_width, .int d_precision, .int d_conversion, .int d_next]))] sz) [(h_d, .inr (2, [.int d_index, .int d_flags, .int d_flagTwice, .int d_width, .int d_precision, .int d_conversion, .int d_next]))] out) 0 0 (va_A [(h_d, .inr (2, [.int d_index, .int d_flags, .int d_flagTwice, .int d_width, .int d_precision, .int d_conversion, .int d_next]))] sz) := by
  refine mm_of (own := "DirectivePrinter$Directive") (cc := b_Directive_isLarge) (maxL := 1) (ret := (some .boolean)) (by decide) rfl rfl ?_
  intro p e s m below meth c hsz C0 hw hname
  generalize (va_A [(h_d, .inr (2, [.int d_index, .int d_flags, .int d_flagTwice, .int d_width, .int d_precision, .int d_conversion, .int d_next]))] sz) = A at C0 hw ⊢
  have hl := lv_entry ([.ref h_d]) (n := 1) (Nat.le_of_ble_eq_true rfl)
  rw [lg_entry_eq]
  generalize (lg_sl ([.ref h_d]) ++ List.replicate (1 - (lg_sl ([.ref h_d])).length) Slot.unset).toArray = ls at hl ⊢
  have hl : lv_has ls 1 [(0, .ref h_d)] := hl
  obtain ⟨hx, hb, hr, hml, hown, hts, hlocks, hK, hZ, hA⟩ := id C0
  generalize s.heap = H at hw ⊢
  unfold f_Directive_isLarge at hf
  refine lv_aload_n hx hb d_Directive_isLarge_0 rfl (lv_at hl 0 rfl) ?_
  refine va_get (D := (dC, dI)) (ci := 2) (v := .int d_conversion) (C := "DirectivePrinter$Directive") (T := T_Directive) (N := 7) hx hb hts (mm_up i_Directive) hown hK hw.1 0 rfl rfl 5 (by decide) (hts _ (List.mem_cons_of_mem _ q_145)) (fun _ h9 => h9) rfl d_Directive_isLarge_1 ?_
  refine lv_bipush (v := (65 : Int32)) hx hb d_Directive_isLarge_4 (by decide) ?_
  refine lv_icmp_lt (tgt := 22) hx hb d_Directive_isLarge_6 (by decide) (fun hc => ?_) (fun hc => ?_)
  · replace hf := mm_ip hc hf
    refine lv_iconst (v := (0 : Int32)) hx hb d_Directive_isLarge_22 (by decide) ?_
    obtain rfl := Option.some.inj hf
    exact mm_zret hx hb hr hlocks hK (by decide) (mm_wsub hw [0] (by decide) rfl rfl) rfl d_Directive_isLarge_23
  · replace hf := mm_in hc hf
    refine lv_aload_n hx hb d_Directive_isLarge_9 rfl (lv_at hl 0 rfl) ?_
    refine va_get (D := (dC, dI)) (ci := 2) (v := .int d_conversion) (C := "DirectivePrinter$Directive") (T := T_Directive) (N := 7) hx hb hts (mm_up i_Directive) hown hK hw.1 0 rfl rfl 5 (by decide) (hts _ (List.mem_cons_of_mem _ q_145)) (fun _ h9 => h9) rfl d_Directive_isLarge_10 ?_
    refine lv_bipush (v := (90 : Int32)) hx hb d_Directive_isLarge_13 (by decide) ?_
    refine lv_icmp_gt (tgt := 22) hx hb d_Directive_isLarge_15 (by decide) (fun hc => ?_) (fun hc => ?_)
    · replace hf := mm_ip hc hf
      refine lv_iconst (v := (0 : Int32)) hx hb d_Directive_isLarge_22 (by decide) ?_
      obtain rfl := Option.some.inj hf
      exact mm_zret hx hb hr hlocks hK (by decide) (mm_wsub hw [0] (by decide) rfl rfl) rfl d_Directive_isLarge_23
    · replace hf := mm_in hc hf
      refine lv_iconst (v := (1 : Int32)) hx hb d_Directive_isLarge_18 (by decide) ?_
      refine lv_goto (tgt := 23) hx hb d_Directive_isLarge_19 (by decide) ?_
      obtain rfl := Option.some.inj hf
      exact mm_zret hx hb hr hlocks hK (by decide) (mm_wsub hw [0] (by decide) rfl rfl) rfl d_Directive_isLarge_23
/-! DirectivePrinter$Directive.smallConversion()C -/
def f_Directive_smallConversion (d_conversion : Int32) : Option (Int32) := mm_b1 (f_Directive_isLarge d_conversion) (fun r_1 => (if r_1 = 0 then some (mm_c d_conversion) else some (mm_c ((d_conversion - (65 : Int32)) + (97 : Int32)))))
abbrev r_Directive_smallConversion : Room := { frames := 1, cells := 0, slots := 0, locals := 20 }
set_option maxHeartbeats 4000000 in
set_option maxRecDepth 100000 in
theorem c_Directive_smallConversion (l : Launch) {Z : (Nat → Prop) → State → Heap → Prop} {ad adK adV : Nat → Nat} (Zo : mm_Zx Z ad adK adV) (dC : Nat → ClassId) (dI : Nat → Nat → Nat) (cC cI cJ cQ : ClassId) (d_index : Int32) (d_flags : Int32) (d_flagTwice : Int32) (d_width : Int32) (d_precision : Int32) (d_conversion : Int32) (d_next : Int32) (h_d : Nat) (sz : Nat) (out : Int32) (hf : f_Directive_smallConversion d_conversion = some out) : Met l y_Directive_smallConversion w_Directive_smallConversion r_Directive_smallConversion (mm_pre (dC, dI) vwC (tyl cC cI cJ cQ) Z [(h_d, .inr (2, [.int d_index, .int d_flags, .int d_flagTwice, .int d_width, .int d_precision, .int d_conversion, .int d_next]))] sz [.ref h_d]) (mm_qi (dC, dI) vwC (tyl cC cI cJ cQ) (va_A [(h_d, .inr (2, [.int d_index, .int d_flags, .int d_flagTwice, .int d_width, .int d_precision, .int d_conversion, .int d_next]))] sz) [(h_d, .inr (2, [.int d_index, .int d_flags, .int d_flagTwice, .int d_width, .int d_precision, .int d_conversion, .int d_next]))] out) 0 0 (va_A [(h_d, .inr (2, [.int d_index, .int d_flags, .int d_flagTwice, .int d_width, .int d_precision, .int d_conversion, .int d_next]))] sz) := by
  refine mm_of (own := "DirectivePrinter$Directive") (cc := b_Directive_smallConversion) (maxL := 1) (ret := (some .char)) (by decide) rfl rfl ?_
  intro p e s m below meth c hsz C0 hw hname
  generalize (va_A [(h_d, .inr (2, [.int d_index, .int d_flags, .int d_flagTwice, .int d_width, .int d_precision, .int d_conversion, .int d_next]))] sz) = A at C0 hw ⊢
  have hl := lv_entry ([.ref h_d]) (n := 1) (Nat.le_of_ble_eq_true rfl)
  rw [lg_entry_eq]
  generalize (lg_sl ([.ref h_d]) ++ List.replicate (1 - (lg_sl ([.ref h_d])).length) Slot.unset).toArray = ls at hl ⊢
  have hl : lv_has ls 1 [(0, .ref h_d)] := hl
  obtain ⟨hx, hb, hr, hml, hown, hts, hlocks, hK, hZ, hA⟩ := id C0
  generalize s.heap = H at hw ⊢
  unfold f_Directive_smallConversion at hf
  refine lv_aload_n hx hb d_Directive_smallConversion_0 rfl (lv_at hl 0 rfl) ?_
  obtain ⟨r_1, hu, hf⟩ := mm_b1_ok hf
  refine mm_ci (wr := []) (va_runV (As := []) (rest := []) ⟨hx, hb, hml, hown, hts⟩ (c_Directive_isLarge l Zo dC dI cC cI cJ cQ d_index d_flags d_flagTwice d_width d_precision d_conversion d_next h_d H.size r_1 hu) (cwV 0 hts (mm_gV q_415 q_416 q_417 q_60 q_418) rfl rfl rfl (by decide +kernel) ⟨Nat.le_of_ble_eq_true rfl, Nat.le_of_ble_eq_true rfl⟩) (mm_pv Zo.1 hK hw hZ hA [0] (by decide) rfl rfl (ci := 2) (q0 := 0) rfl rfl) rfl rfl hl.1 rfl (lv_room (Nat.le_of_ble_eq_true rfl)) d_Directive_smallConversion_1 ⟨Nat.le_refl _, Nat.le_refl _⟩) hw hA [0] [] rfl rfl (by decide) (by decide) (fun H locs hw => ?_)
  have hw : mm_w (dC, dI) vwC A s [(h_d, .inr (2, [.int d_index, .int d_flags, .int d_flagTwice, .int d_width, .int d_precision, .int d_conversion, .int d_next]))] H locs := hw
  refine lv_if_eq (tgt := 20) hx hb d_Directive_smallConversion_4 (by decide) (fun hc => ?_) (fun hc => ?_)
  · replace hf := mm_ip hc hf
    refine lv_aload_n hx hb d_Directive_smallConversion_20 rfl (lv_at hl 0 rfl) ?_
    refine va_get (D := (dC, dI)) (ci := 2) (v := .int d_conversion) (C := "DirectivePrinter$Directive") (T := T_Directive) (N := 7) hx hb hts (mm_up i_Directive) hown hK hw.1 0 rfl rfl 5 (by decide) (hts _ (List.mem_cons_of_mem _ q_145)) (fun _ h9 => h9) rfl d_Directive_smallConversion_21 ?_
    refine lv_i2c (v := mm_c d_conversion) hx hb d_Directive_smallConversion_24 rfl ?_
    obtain rfl := Option.some.inj hf
    exact mm_zret hx hb hr hlocks hK (pk_nc _) (mm_wsub hw [0] (by decide) rfl rfl) rfl d_Directive_smallConversion_25
  · replace hf := mm_in hc hf
    refine lv_aload_n hx hb d_Directive_smallConversion_7 rfl (lv_at hl 0 rfl) ?_
    refine va_get (D := (dC, dI)) (ci := 2) (v := .int d_conversion) (C := "DirectivePrinter$Directive") (T := T_Directive) (N := 7) hx hb hts (mm_up i_Directive) hown hK hw.1 0 rfl rfl 5 (by decide) (hts _ (List.mem_cons_of_mem _ q_145)) (fun _ h9 => h9) rfl d_Directive_smallConversion_8 ?_
    refine lv_bipush (v := (65 : Int32)) hx hb d_Directive_smallConversion_11 (by decide) ?_
    refine lv_isub hx hb d_Directive_smallConversion_13 ?_
    refine lv_bipush (v := (97 : Int32)) hx hb d_Directive_smallConversion_14 (by decide) ?_
    refine lv_iadd hx hb d_Directive_smallConversion_16 ?_
    refine lv_goto (tgt := 24) hx hb d_Directive_smallConversion_17 (by decide) ?_
    refine lv_i2c (v := mm_c ((d_conversion - (65 : Int32)) + (97 : Int32))) hx hb d_Directive_smallConversion_24 rfl ?_
    obtain rfl := Option.some.inj hf
    exact mm_zret hx hb hr hlocks hK (pk_nc _) (mm_wsub hw [0] (by decide) rfl rfl) rfl d_Directive_smallConversion_25
/-! DirectivePrinter$Directive.precisionOr(I)I -/
def f_Directive_precisionOr (d_precision : Int32) (usual : Int32) : Option (Int32) := (if d_precision = (-1 : Int32) then some (usual) else some (d_precision))
abbrev r_Directive_precisionOr : Room := { frames := 0, cells := 0, slots := 0, locals := 0 }
set_option maxHeartbeats 4000000 in
set_option maxRecDepth 100000 in
theorem c_Directive_precisionOr (l : Launch) {Z : (Nat → Prop) → State → Heap → Prop} {ad adK adV : Nat → Nat} (Zo : mm_Zx Z ad adK adV) (dC : Nat → ClassId) (dI : Nat → Nat → Nat) (cC cI cJ cQ : ClassId) (d_index : Int32) (d_flags : Int32) (d_flagTwice : Int32) (d_width : Int32) (d_precision : Int32) (d_conversion : Int32) (d_next : Int32) (usual : Int32) (h_d : Nat) (sz : Nat) (out : Int32) (hf : f_Directive_precisionOr d_precision usual = some out) : Met l y_Directive_precisionOr w_Directive_precisionOr r_Directive_precisionOr (mm_pre (dC, dI) vwC (tyl cC cI cJ cQ) Z [(h_d, .inr (2, [.int d_index, .int d_flags, .int d_flagTwice, .int d_width, .int d_precision, .int d_conversion, .int d_next]))] sz [.ref h_d, .int usual]) (mm_qi (dC, dI) vwC (tyl cC cI cJ cQ) (va_A [(h_d, .inr (2, [.int d_index, .int d_flags, .int d_flagTwice, .int d_width, .int d_precision, .int d_conversion, .int d_next]))] sz) [(h_d, .inr (2, [.int d_index, .int d_flags, .int d_flagTwice, .int d_width, .int d_precision, .int d_conversion, .int d_next]))] out) 0 0 (va_A [(h_d, .inr (2, [.int d_index, .int d_flags, .int d_flagTwice, .int d_width, .int d_precision, .int d_conversion, .int d_next]))] sz) := by
  refine mm_of (own := "DirectivePrinter$Directive") (cc := b_Directive_precisionOr) (maxL := 2) (ret := (some .int)) (by decide) rfl rfl ?_
  intro p e s m below meth c hsz C0 hw hname
  generalize (va_A [(h_d, .inr (2, [.int d_index, .int d_flags, .int d_flagTwice, .int d_width, .int d_precision, .int d_conversion, .int d_next]))] sz) = A at C0 hw ⊢
  have hl := lv_entry ([.ref h_d, .int usual]) (n := 2) (Nat.le_of_ble_eq_true rfl)
  rw [lg_entry_eq]
  generalize (lg_sl ([.ref h_d, .int usual]) ++ List.replicate (2 - (lg_sl ([.ref h_d, .int usual])).length) Slot.unset).toArray = ls at hl ⊢
  have hl : lv_has ls 2 [(0, .ref h_d), (1, .int usual)] := hl
  obtain ⟨hx, hb, hr, hml, hown, hts, hlocks, hK, hZ, hA⟩ := id C0
  generalize s.heap = H at hw ⊢
  unfold f_Directive_precisionOr at hf
  refine lv_aload_n hx hb d_Directive_precisionOr_0 rfl (lv_at hl 0 rfl) ?_
  refine va_get (D := (dC, dI)) (ci := 2) (v := .int d_precision) (C := "DirectivePrinter$Directive") (T := T_Directive) (N := 7) hx hb hts (mm_up i_Directive) hown hK hw.1 0 rfl rfl 4 (by decide) (hts _ (List.mem_cons_of_mem _ q_143)) (fun _ h9 => h9) rfl d_Directive_precisionOr_1 ?_
  refine lv_iconst (v := (-1 : Int32)) hx hb d_Directive_precisionOr_4 (by decide) ?_
  refine lv_icmp_ne (tgt := 12) hx hb d_Directive_precisionOr_5 (by decide) (fun hc => ?_) (fun hc => ?_)
  · replace hf := mm_in hc hf
    refine lv_aload_n hx hb d_Directive_precisionOr_12 rfl (lv_at hl 0 rfl) ?_
    refine va_get (D := (dC, dI)) (ci := 2) (v := .int d_precision) (C := "DirectivePrinter$Directive") (T := T_Directive) (N := 7) hx hb hts (mm_up i_Directive) hown hK hw.1 0 rfl rfl 4 (by decide) (hts _ (List.mem_cons_of_mem _ q_143)) (fun _ h9 => h9) rfl d_Directive_precisionOr_13 ?_
    obtain rfl := Option.some.inj hf
    exact mm_iret hx hb hr hlocks hK (mm_wsub hw [0] (by decide) rfl rfl) rfl d_Directive_precisionOr_16
  · replace hf := mm_ip hc hf
    refine lv_iload_n hx hb d_Directive_precisionOr_8 rfl (lv_at hl 1 rfl) ?_
    refine lv_goto (tgt := 16) hx hb d_Directive_precisionOr_9 (by decide) ?_
    obtain rfl := Option.some.inj hf
    exact mm_iret hx hb hr hlocks hK (mm_wsub hw [0] (by decide) rfl rfl) rfl d_Directive_precisionOr_16
/-! DirectivePrinter$Directive.isDigit(I)Z -/
def f_Directive_isDigit (ch : Int32) : Option (Int32) := (if ch < (48 : Int32) then some ((0 : Int32)) else (if (57 : Int32) < ch then some ((0 : Int32)) else some ((1 : Int32))))
abbrev r_Directive_isDigit : Room := { frames := 0, cells := 0, slots := 0, locals := 0 }
set_option maxHeartbeats 4000000 in
set_option maxRecDepth 100000 in
theorem c_Directive_isDigit (l : Launch) {Z : (Nat → Prop) → State → Heap → Prop} {ad adK adV : Nat → Nat} (Zo : mm_Zx Z ad adK adV) (dC : Nat → ClassId) (dI : Nat → Nat → Nat) (cC cI cJ cQ : ClassId) (ch : Int32) (sz : Nat) (out : Int32) (hf : f_Directive_isDigit ch = some out) : Met l y_Directive_isDigit w_Directive_isDigit r_Directive_isDigit (mm_pre (dC, dI) vwC (tyl cC cI cJ cQ) Z [] sz [.int ch]) (mm_qi (dC, dI) vwC (tyl cC cI cJ cQ) (va_A [] sz) [] out) 0 0 (va_A [] sz) := by
  refine mm_of (own := "DirectivePrinter$Directive") (cc := b_Directive_isDigit) (maxL := 1) (ret := (some .boolean)) (by decide) rfl rfl ?_
  intro p e s m below meth c hsz C0 hw hname
  generalize (va_A [] sz) = A at C0 hw ⊢
  have hl := lv_entry ([.int ch]) (n := 1) (Nat.le_of_ble_eq_true rfl)
  rw [lg_entry_eq]
  generalize (lg_sl ([.int ch]) ++ List.replicate (1 - (lg_sl ([.int ch])).length) Slot.unset).toArray = ls at hl ⊢
  have hl : lv_has ls 1 [(0, .int ch)] := hl
  obtain ⟨hx, hb, hr, hml, hown, hts, hlocks, hK, hZ, hA⟩ := id C0
  generalize s.heap = H at hw ⊢
  unfold f_Directive_isDigit at hf
  refine lv_iload_n hx hb d_Directive_isDigit_0 rfl (lv_at hl 0 rfl) ?_
  refine lv_bipush (v := (48 : Int32)) hx hb d_Directive_isDigit_1 (by decide) ?_
  refine lv_icmp_lt (tgt := 16) hx hb d_Directive_isDigit_3 (by decide) (fun hc => ?_) (fun hc => ?_)
  · replace hf := mm_ip hc hf
    refine lv_iconst (v := (0 : Int32)) hx hb d_Directive_isDigit_16 (by decide) ?_
    obtain rfl := Option.some.inj hf
    exact mm_zret hx hb hr hlocks hK (by decide) (mm_wsub hw [] (by decide) rfl rfl) rfl d_Directive_isDigit_17
  · replace hf := mm_in hc hf
    refine lv_iload_n hx hb d_Directive_isDigit_6 rfl (lv_at hl 0 rfl) ?_
    refine lv_bipush (v := (57 : Int32)) hx hb d_Directive_isDigit_7 (by decide) ?_
    refine lv_icmp_gt (tgt := 16) hx hb d_Directive_isDigit_9 (by decide) (fun hc => ?_) (fun hc => ?_)
    · replace hf := mm_ip hc hf
      refine lv_iconst (v := (0 : Int32)) hx hb d_Directive_isDigit_16 (by decide) ?_
      obtain rfl := Option.some.inj hf
      exact mm_zret hx hb hr hlocks hK (by decide) (mm_wsub hw [] (by decide) rfl rfl) rfl d_Directive_isDigit_17
    · replace hf := mm_in hc hf
      refine lv_iconst (v := (1 : Int32)) hx hb d_Directive_isDigit_12 (by decide) ?_
      refine lv_goto (tgt := 17) hx hb d_Directive_isDigit_13 (by decide) ?_
      obtain rfl := Option.some.inj hf
      exact mm_zret hx hb hr hlocks hK (by decide) (mm_wsub hw [] (by decide) rfl rfl) rfl d_Directive_isDigit_17
/-! DirectivePrinter$Directive.readNumber(LDirectivePrinter$Row;)I -/
def f_Directive_readNumber_7 (r_kept_n : Nat) (r_kept : Nat → Int32) (r_length : Int32) : Nat → Int32 → Int32 → Int32 → Option (Int32 × Int32)
  | 0, _, _, _ => none
  | fu + 1, d_next, x2, x3 => (if x3 ≤ d_next then some (x2, d_next) else mm_b1 (f_Row_at r_kept_n r_kept r_length d_next) (fun r_2 => mm_b1 (f_Directive_isDigit r_2) (fun r_3 => (if r_3 = 0 then some (x2, d_next) else mm_b1 (f_Row_at r_kept_n r_kept r_length d_next) (fun r_4 => f_Directive_readNumber_7 r_kept_n r_kept r_length fu (d_next + (1 : Int32)) (if (9999 : Int32) < (((if x2 < (0 : Int32) then (0 : Int32) else x2) * (10 : Int32)) + (r_4 - (48 : Int32))) then (9999 : Int32) else (((if x2 < (0 : Int32) then (0 : Int32) else x2) * (10 : Int32)) + (r_4 - (48 : Int32)))) x3)))))
def f_Directive_readNumber (N : Nat) (d_next : Int32) (r_kept_n : Nat) (r_kept : Nat → Int32) (r_length : Int32) : Option (Int32 × Int32) := mm_b1 (f_Row_size r_length) (fun r_1 => f_Directive_readNumber_7 r_kept_n r_kept r_length N d_next (-1 : Int32) r_1)
abbrev r_Directive_readNumber : Room := { frames := 1, cells := 0, slots := 0, locals := 21 }
set_option maxHeartbeats 4000000 in
set_option maxRecDepth 100000 in
theorem b_Directive_readNumber_7 {h_d h_r h_r_kept : Nat} (Zo : mm_Zx Z ad adK adV) (C0 : mm_cx (dC, dI) vwC (tyl cC cI cJ cQ) Z p s m args meth c b_Directive_readNumber 5 (some .int) "DirectivePrinter$Directive" w_Directive_readNumber A) (N : Nat) (d_index : Int32) (d_flags : Int32) (d_flagTwice : Int32) (d_width : Int32) (d_precision : Int32) (d_conversion : Int32) (r_kept_n : Nat) (r_kept : Nat → Int32) (r_length : Int32) (out : Int32 × Int32) : ∀ (fuel : Nat) (d_next : Int32) (x2 : Int32) (x3 : Int32), f_Directive_readNumber_7 r_kept_n r_kept r_length fuel d_next x2 x3 = some out → ∀ (H : Heap) (locs : List Loc), mm_w (dC, dI) vwC A s [(h_d, .inr (2, [.int d_index, .int d_flags, .int d_flagTwice, .int d_width, .int d_precision, .int d_conversion, .int d_next])), (h_r, .inr (0, [.ref h_r_kept, .int r_length])), (h_r_kept, .inl (cC, r_kept_n, .inl r_kept))] H locs → ∀ (ls : Array Slot), lv_has ls 5 [(0, .ref h_d), (1, .ref h_r), (2, .int x2), (3, .int x3)] → W p l e r_Directive_readNumber s m args below meth c H locs 0 0 (MQ below (mm_qi (dC, dI) vwC (tyl cC cI cJ cQ) A [(h_d, .inr (2, [.int d_index, .int d_flags, .int d_flagTwice, .int d_width, .int d_precision, .int d_conversion, .int out.2])), (h_r, .inr (0, [.ref h_r_kept, .int r_length])), (h_r_kept, .inl (cC, r_kept_n, .inl r_kept))] out.1) args s 0 0 A) (F0 m 7 ls []) := by
  obtain ⟨hx, hb, hr, hml, hown, hts, hlocks, hK, hZ, hA⟩ := id C0
  intro fuel
  induction fuel with
  | zero =>
    intro d_next x2 x3 hf
    cases (show (none : Option (Int32 × Int32)) = some out from hf)
  | succ fu ih =>
    intro d_next x2 x3 hf H locs hw ls hl
    unfold f_Directive_readNumber_7 at hf
    refine lv_aload_n hx hb d_Directive_readNumber_7 rfl (lv_at hl 0 rfl) ?_
    refine va_get (D := (dC, dI)) (ci := 2) (v := .int d_next) (C := "DirectivePrinter$Directive") (T := T_Directive) (N := 7) hx hb hts (mm_up i_Directive) hown hK hw.1 0 rfl rfl 6 (by decide) (hts _ (List.mem_cons_of_mem _ q_146)) (fun _ h9 => h9) rfl d_Directive_readNumber_8 ?_
    refine lv_iload_n hx hb d_Directive_readNumber_11 rfl (lv_at hl 3 rfl) ?_
    refine lv_icmp_ge (tgt := 73) hx hb d_Directive_readNumber_12 (by decide) (fun hc => ?_) (fun hc => ?_)
    · replace hf := mm_ip hc hf
      refine lv_iload_n hx hb d_Directive_readNumber_73 rfl (lv_at hl 2 rfl) ?_
      obtain rfl := Option.some.inj hf
      exact mm_iret hx hb hr hlocks hK (mm_wsub hw [0, 1, 2] (by decide) rfl rfl) rfl d_Directive_readNumber_74
    · replace hf := mm_in hc hf
      refine lv_aload_n hx hb d_Directive_readNumber_15 rfl (lv_at hl 1 rfl) ?_
      refine lv_aload_n hx hb d_Directive_readNumber_16 rfl (lv_at hl 0 rfl) ?_
      refine va_get (D := (dC, dI)) (ci := 2) (v := .int d_next) (C := "DirectivePrinter$Directive") (T := T_Directive) (N := 7) hx hb hts (mm_up i_Directive) hown hK hw.1 0 rfl rfl 6 (by decide) (hts _ (List.mem_cons_of_mem _ q_146)) (fun _ h9 => h9) rfl d_Directive_readNumber_17 ?_
      obtain ⟨r_2, hu, hf⟩ := mm_b1_ok hf
      refine mm_ci (wr := [(h_d, .inr (2, [.int d_index, .int d_flags, .int d_flagTwice, .int d_width, .int d_precision, .int d_conversion, .int d_next]))]) (va_runV (As := [.int d_next]) (rest := []) ⟨hx, hb, hml, hown, hts⟩ (c_Row_at l Zo dC dI cC cI cJ cQ r_kept_n r_kept r_length d_next h_r h_r_kept H.size r_2 hu) (cwV 1 hts (mm_gV q_289 q_274 q_275 q_55 q_276) rfl rfl rfl (by decide +kernel) ⟨Nat.le_of_ble_eq_true rfl, Nat.le_of_ble_eq_true rfl⟩) (mm_pv Zo.1 hK hw hZ hA [1, 2] (by decide) rfl rfl (ci := 0) (q0 := 0) rfl rfl) rfl rfl hl.1 rfl (lv_room (Nat.le_of_ble_eq_true rfl)) d_Directive_readNumber_20 ⟨Nat.le_refl _, Nat.le_refl _⟩) hw hA [1, 2] [0] rfl rfl (by decide) (by decide) (fun H locs hw => ?_)
      have hw : mm_w (dC, dI) vwC A s [(h_d, .inr (2, [.int d_index, .int d_flags, .int d_flagTwice, .int d_width, .int d_precision, .int d_conversion, .int d_next])), (h_r, .inr (0, [.ref h_r_kept, .int r_length])), (h_r_kept, .inl (cC, r_kept_n, .inl r_kept))] H locs := hw
      obtain ⟨r_3, hu, hf⟩ := mm_b1_ok hf
      refine mm_ci (wr := [(h_d, .inr (2, [.int d_index, .int d_flags, .int d_flagTwice, .int d_width, .int d_precision, .int d_conversion, .int d_next])), (h_r, .inr (0, [.ref h_r_kept, .int r_length])), (h_r_kept, .inl (cC, r_kept_n, .inl r_kept))]) (va_runS (As := [.int r_2]) (rest := []) ⟨hx, hb, hml, hown, hts⟩ (c_Directive_isDigit l Zo dC dI cC cI cJ cQ r_2  H.size r_3 hu) (va_cwS 1 hts (mm_gS q_295 q_296 q_60 q_297) rfl rfl rfl (by decide +kernel) ⟨Nat.le_of_ble_eq_true rfl, Nat.le_of_ble_eq_true rfl⟩) (mm_ps Zo.1 hK hw hZ hA [] (by decide) rfl rfl) rfl rfl hl.1 rfl (lv_room (Nat.le_of_ble_eq_true rfl)) d_Directive_readNumber_23 ⟨Nat.le_refl _, Nat.le_refl _⟩) hw hA [] [0, 1, 2] rfl rfl (by decide) (by decide) (fun H locs hw => ?_)
      have hw : mm_w (dC, dI) vwC A s [(h_d, .inr (2, [.int d_index, .int d_flags, .int d_flagTwice, .int d_width, .int d_precision, .int d_conversion, .int d_next])), (h_r, .inr (0, [.ref h_r_kept, .int r_length])), (h_r_kept, .inl (cC, r_kept_n, .inl r_kept))] H locs := hw
      refine lv_if_eq (tgt := 73) hx hb d_Directive_readNumber_26 (by decide) (fun hc => ?_) (fun hc => ?_)
      · replace hf := mm_ip hc hf
        refine lv_iload_n hx hb d_Directive_readNumber_73 rfl (lv_at hl 2 rfl) ?_
        obtain rfl := Option.some.inj hf
        exact mm_iret hx hb hr hlocks hK (mm_wsub hw [0, 1, 2] (by decide) rfl rfl) rfl d_Directive_readNumber_74
      · replace hf := mm_in hc hf
        refine lv_aload_n hx hb d_Directive_readNumber_29 rfl (lv_at hl 1 rfl) ?_
        refine lv_aload_n hx hb d_Directive_readNumber_30 rfl (lv_at hl 0 rfl) ?_
        refine va_get (D := (dC, dI)) (ci := 2) (v := .int d_next) (C := "DirectivePrinter$Directive") (T := T_Directive) (N := 7) hx hb hts (mm_up i_Directive) hown hK hw.1 0 rfl rfl 6 (by decide) (hts _ (List.mem_cons_of_mem _ q_146)) (fun _ h9 => h9) rfl d_Directive_readNumber_31 ?_
        obtain ⟨r_4, hu, hf⟩ := mm_b1_ok hf
        refine mm_ci (wr := [(h_d, .inr (2, [.int d_index, .int d_flags, .int d_flagTwice, .int d_width, .int d_precision, .int d_conversion, .int d_next]))]) (va_runV (As := [.int d_next]) (rest := []) ⟨hx, hb, hml, hown, hts⟩ (c_Row_at l Zo dC dI cC cI cJ cQ r_kept_n r_kept r_length d_next h_r h_r_kept H.size r_4 hu) (cwV 1 hts (mm_gV q_289 q_274 q_275 q_55 q_276) rfl rfl rfl (by decide +kernel) ⟨Nat.le_of_ble_eq_true rfl, Nat.le_of_ble_eq_true rfl⟩) (mm_pv Zo.1 hK hw hZ hA [1, 2] (by decide) rfl rfl (ci := 0) (q0 := 0) rfl rfl) rfl rfl hl.1 rfl (lv_room (Nat.le_of_ble_eq_true rfl)) d_Directive_readNumber_34 ⟨Nat.le_refl _, Nat.le_refl _⟩) hw hA [1, 2] [0] rfl rfl (by decide) (by decide) (fun H locs hw => ?_)
        have hw : mm_w (dC, dI) vwC A s [(h_d, .inr (2, [.int d_index, .int d_flags, .int d_flagTwice, .int d_width, .int d_precision, .int d_conversion, .int d_next])), (h_r, .inr (0, [.ref h_r_kept, .int r_length])), (h_r_kept, .inl (cC, r_kept_n, .inl r_kept))] H locs := hw
        refine lv_bipush (v := (48 : Int32)) hx hb d_Directive_readNumber_37 (by decide) ?_
        refine lv_isub hx hb d_Directive_readNumber_39 ?_
        refine lv_istore (lv' := [(4, .int (r_4 - (48 : Int32))), (0, .ref h_d), (1, .ref h_r), (2, .int x2), (3, .int x3)]) hx hb d_Directive_readNumber_40 hl (by decide) rfl (fun ls hl => ?_)
        refine lv_iload_n hx hb d_Directive_readNumber_42 rfl (lv_at hl 3 rfl) ?_
        refine lv_iconst (v := (0 : Int32)) hx hb d_Directive_readNumber_43 (by decide) ?_
        refine va_mmax hx hb (hml.trans hl.1.symm) hown (hts _ (List.mem_cons_of_mem _ q_298)) (hts _ (List.mem_cons_of_mem _ q_89)) (hts _ (List.mem_cons_of_mem _ q_56)) (hts _ (List.mem_cons_of_mem _ q_90)) (Nat.le_of_ble_eq_true rfl) (Nat.le_of_ble_eq_true rfl) (Nat.zero_le _) (Nat.zero_le _) d_Directive_readNumber_44 ?_
        refine lv_bipush (v := (10 : Int32)) hx hb d_Directive_readNumber_47 (by decide) ?_
        refine lv_imul hx hb d_Directive_readNumber_49 ?_
        refine lv_iload hx hb d_Directive_readNumber_50 (lv_at hl 0 rfl) ?_
        refine lv_iadd hx hb d_Directive_readNumber_52 ?_
        refine lv_sipush (v := (9999 : Int32)) hx hb d_Directive_readNumber_53 (by decide) ?_
        refine va_mmin hx hb (hml.trans hl.1.symm) hown (hts _ (List.mem_cons_of_mem _ q_299)) (hts _ (List.mem_cons_of_mem _ q_300)) (hts _ (List.mem_cons_of_mem _ q_56)) (hts _ (List.mem_cons_of_mem _ q_301)) (Nat.le_of_ble_eq_true rfl) (Nat.le_of_ble_eq_true rfl) (Nat.zero_le _) (Nat.zero_le _) d_Directive_readNumber_56 ?_
        refine lv_istore_n (lv' := [(2, .int (if (9999 : Int32) < (((if x2 < (0 : Int32) then (0 : Int32) else x2) * (10 : Int32)) + (r_4 - (48 : Int32))) then (9999 : Int32) else (((if x2 < (0 : Int32) then (0 : Int32) else x2) * (10 : Int32)) + (r_4 - (48 : Int32))))), (4, .int (r_4 - (48 : Int32))), (0, .ref h_d), (1, .ref h_r), (3, .int x3)]) hx hb d_Directive_readNumber_59 rfl hl (by decide) rfl (fun ls hl => ?_)
        refine lv_aload_n hx hb d_Directive_readNumber_60 rfl (lv_at hl 2 rfl) ?_
        refine lv_dup hx hb d_Directive_readNumber_61 rfl ?_
        refine va_get (D := (dC, dI)) (ci := 2) (v := .int d_next) (C := "DirectivePrinter$Directive") (T := T_Directive) (N := 7) hx hb hts (mm_up i_Directive) hown hK hw.1 0 rfl rfl 6 (by decide) (hts _ (List.mem_cons_of_mem _ q_146)) (fun _ h9 => h9) rfl d_Directive_readNumber_62 ?_
        refine lv_iconst (v := (1 : Int32)) hx hb d_Directive_readNumber_65 (by decide) ?_
        refine lv_iadd hx hb d_Directive_readNumber_66 ?_
        refine va_put (D := (dC, dI)) (ci := 2) (v := .int (d_next + (1 : Int32))) (ty := .int) (C := "DirectivePrinter$Directive") (T := T_Directive) (N := 7) hx hb hts (mm_up i_Directive) t_Directive t_Directive_ok n_Directive hown hK hw.1 hw.2.1 hw.2.2 0 rfl rfl 6 (by decide) (hts _ (List.mem_cons_of_mem _ q_146)) (fun _ h9 => h9) rfl (by decide +kernel) rfl rfl (Nat.le_of_ble_eq_true rfl) d_Directive_readNumber_67 (fun H locs hP hD hS => ?_)
        have hw : mm_w (dC, dI) vwC A s [(h_d, .inr (2, [.int d_index, .int d_flags, .int d_flagTwice, .int d_width, .int d_precision, .int d_conversion, .int (d_next + (1 : Int32))])), (h_r, .inr (0, [.ref h_r_kept, .int r_length])), (h_r_kept, .inl (cC, r_kept_n, .inl r_kept))] H locs := ⟨hP, hD, hS⟩
        refine lv_goto (tgt := 7) hx hb d_Directive_readNumber_70 (by decide) ?_
        exact ih (d_next + (1 : Int32)) (if (9999 : Int32) < (((if x2 < (0 : Int32) then (0 : Int32) else x2) * (10 : Int32)) + (r_4 - (48 : Int32))) then (9999 : Int32) else (((if x2 < (0 : Int32) then (0 : Int32) else x2) * (10 : Int32)) + (r_4 - (48 : Int32)))) x3 hf _ _ hw _ (lv_sub hl [2, 3, 0, 4] rfl)
set_option maxHeartbeats 4000000 in
set_option maxRecDepth 100000 in
theorem c_Directive_readNumber (l : Launch) {Z : (Nat → Prop) → State → Heap → Prop} {ad adK adV : Nat → Nat} (Zo : mm_Zx Z ad adK adV) (dC : Nat → ClassId) (dI : Nat → Nat → Nat) (cC cI cJ cQ : ClassId) (N : Nat) (d_index : Int32) (d_flags : Int32) (d_flagTwice : Int32) (d_width : Int32) (d_precision : Int32) (d_conversion : Int32) (d_next : Int32) (r_kept_n : Nat) (r_kept : Nat → Int32) (r_length : Int32) (h_d h_r h_r_kept : Nat) (sz : Nat) (out : Int32 × Int32) (hf : f_Directive_readNumber N d_next r_kept_n r_kept r_length = some out) : Met l y_Directive_readNumber w_Directive_readNumber r_Directive_readNumber (mm_pre (dC, dI) vwC (tyl cC cI cJ cQ) Z [(h_d, .inr (2, [.int d_index, .int d_flags, .int d_flagTwice, .int d_width, .int d_precision, .int d_conversion, .int d_next])), (h_r, .inr (0, [.ref h_r_kept, .int r_length])), (h_r_kept, .inl (cC, r_kept_n, .inl r_kept))] sz [.ref h_d, .ref h_r]) (mm_qi (dC, dI) vwC (tyl cC cI cJ cQ) (va_A [(h_d, .inr (2, [.int d_index, .int d_flags, .int d_flagTwice, .int d_width, .int d_precision, .int d_conversion, .int d_next])), (h_r, .inr (0, [.ref h_r_kept, .int r_length])), (h_r_kept, .inl (cC, r_kept_n, .inl r_kept))] sz) [(h_d, .inr (2, [.int d_index, .int d_flags, .int d_flagTwice, .int d_width, .int d_precision, .int d_conversion, .int out.2])), (h_r, .inr (0, [.ref h_r_kept, .int r_length])), (h_r_kept, .inl (cC, r_kept_n, .inl r_kept))] out.1) 0 0 (va_A [(h_d, .inr (2, [.int d_index, .int d_flags, .int d_flagTwice, .int d_width, .int d_precision, .int d_conversion, .int d_next])), (h_r, .inr (0, [.ref h_r_kept, .int r_length])), (h_r_kept, .inl (cC, r_kept_n, .inl r_kept))] sz) := by
  refine mm_of (own := "DirectivePrinter$Directive") (cc := b_Directive_readNumber) (maxL := 5) (ret := (some .int)) (by decide) rfl rfl ?_
  intro p e s m below meth c hsz C0 hw hname
  generalize (va_A [(h_d, .inr (2, [.int d_index, .int d_flags, .int d_flagTwice, .int d_width, .int d_precision, .int d_conversion, .int d_next])), (h_r, .inr (0, [.ref h_r_kept, .int r_length])), (h_r_kept, .inl (cC, r_kept_n, .inl r_kept))] sz) = A at C0 hw ⊢
  have hl := lv_entry ([.ref h_d, .ref h_r]) (n := 5) (Nat.le_of_ble_eq_true rfl)
  rw [lg_entry_eq]
  generalize (lg_sl ([.ref h_d, .ref h_r]) ++ List.replicate (5 - (lg_sl ([.ref h_d, .ref h_r])).length) Slot.unset).toArray = ls at hl ⊢
  have hl : lv_has ls 5 [(0, .ref h_d), (1, .ref h_r)] := hl
  obtain ⟨hx, hb, hr, hml, hown, hts, hlocks, hK, hZ, hA⟩ := id C0
  generalize s.heap = H at hw ⊢
  unfold f_Directive_readNumber at hf
  refine lv_iconst (v := (-1 : Int32)) hx hb d_Directive_readNumber_0 (by decide) ?_
  refine lv_istore_n (lv' := [(2, .int (-1 : Int32)), (0, .ref h_d), (1, .ref h_r)]) hx hb d_Directive_readNumber_1 rfl hl (by decide) rfl (fun ls hl => ?_)
  refine lv_aload_n hx hb d_Directive_readNumber_2 rfl (lv_at hl 2 rfl) ?_
  obtain ⟨r_1, hu, hf⟩ := mm_b1_ok hf
  refine mm_ci (wr := [(h_d, .inr (2, [.int d_index, .int d_flags, .int d_flagTwice, .int d_width, .int d_precision, .int d_conversion, .int d_next]))]) (va_runV (As := []) (rest := []) ⟨hx, hb, hml, hown, hts⟩ (c_Row_size l Zo dC dI cC cI cJ cQ r_kept_n r_kept r_length h_r h_r_kept H.size r_1 hu) (cwV 0 hts (mm_gV q_294 q_243 q_244 q_55 q_245) rfl rfl rfl (by decide +kernel) ⟨Nat.le_of_ble_eq_true rfl, Nat.le_of_ble_eq_true rfl⟩) (mm_pv Zo.1 hK hw hZ hA [1, 2] (by decide) rfl rfl (ci := 0) (q0 := 0) rfl rfl) rfl rfl hl.1 rfl (lv_room (Nat.le_of_ble_eq_true rfl)) d_Directive_readNumber_3 ⟨Nat.le_refl _, Nat.le_refl _⟩) hw hA [1, 2] [0] rfl rfl (by decide) (by decide) (fun H locs hw => ?_)
  have hw : mm_w (dC, dI) vwC A s [(h_d, .inr (2, [.int d_index, .int d_flags, .int d_flagTwice, .int d_width, .int d_precision, .int d_conversion, .int d_next])), (h_r, .inr (0, [.ref h_r_kept, .int r_length])), (h_r_kept, .inl (cC, r_kept_n, .inl r_kept))] H locs := hw
  refine lv_istore_n (lv' := [(3, .int r_1), (2, .int (-1 : Int32)), (0, .ref h_d), (1, .ref h_r)]) hx hb d_Directive_readNumber_6 rfl hl (by decide) rfl (fun ls hl => ?_)
  exact b_Directive_readNumber_7 Zo C0 N d_index d_flags d_flagTwice d_width d_precision d_conversion r_kept_n r_kept r_length  out N d_next (-1 : Int32) r_1 hf _ _ hw _ (lv_sub hl [2, 3, 1, 0] rfl)
/-! DirectivePrinter$Directive.readIndex(LDirectivePrinter$Row;)V -/
def f_Directive_readIndex (N : Nat) (d_next : Int32) (r_kept_n : Nat) (r_kept : Nat → Int32) (r_length : Int32) : Option (Int32 × Int32) := mm_b1 (f_Row_at r_kept_n r_kept r_length d_next) (fun r_1 => (if r_1 = (48 : Int32) then some ((-1 : Int32), d_next) else mm_b2 (f_Directive_readNumber N d_next r_kept_n r_kept r_length) (fun r_2 o_3 => (if r_2 = (-1 : Int32) then some ((-1 : Int32), d_next) else mm_b1 (f_Row_at r_kept_n r_kept r_length o_3) (fun r_4 => (if r_4 = (36 : Int32) then some (r_2, o_3 + (1 : Int32)) else some ((-1 : Int32), d_next)))))))
abbrev r_Directive_readIndex : Room := { frames := 2, cells := 0, slots := 0, locals := 45 }
set_option maxHeartbeats 4000000 in
set_option maxRecDepth 100000 in
theorem c_Directive_readIndex (l : Launch) {Z : (Nat → Prop) → State → Heap → Prop} {ad adK adV : Nat → Nat} (Zo : mm_Zx Z ad adK adV) (dC : Nat → ClassId) (dI : Nat → Nat → Nat) (cC cI cJ cQ : ClassId) (N : Nat) (d_index : Int32) (d_flags : Int32) (d_flagTwice : Int32) (d_width : Int32) (d_precision : Int32) (d_conversion : Int32) (d_next : Int32) (r_kept_n : Nat) (r_kept : Nat → Int32) (r_length : Int32) (h_d h_r h_r_kept : Nat) (sz : Nat) (out : Int32 × Int32) (hf : f_Directive_readIndex N d_next r_kept_n r_kept r_length = some out) : Met l y_Directive_readIndex w_Directive_readIndex r_Directive_readIndex (mm_pre (dC, dI) vwC (tyl cC cI cJ cQ) Z [(h_d, .inr (2, [.int d_index, .int d_flags, .int d_flagTwice, .int d_width, .int d_precision, .int d_conversion, .int d_next])), (h_r, .inr (0, [.ref h_r_kept, .int r_length])), (h_r_kept, .inl (cC, r_kept_n, .inl r_kept))] sz [.ref h_d, .ref h_r]) (mm_qv (dC, dI) vwC (tyl cC cI cJ cQ) (va_A [(h_d, .inr (2, [.int d_index, .int d_flags, .int d_flagTwice, .int d_width, .int d_precision, .int d_conversion, .int d_next])), (h_r, .inr (0, [.ref h_r_kept, .int r_length])), (h_r_kept, .inl (cC, r_kept_n, .inl r_kept))] sz) [(h_d, .inr (2, [.int out.1, .int d_flags, .int d_flagTwice, .int d_width, .int d_precision, .int d_conversion, .int out.2])), (h_r, .inr (0, [.ref h_r_kept, .int r_length])), (h_r_kept, .inl (cC, r_kept_n, .inl r_kept))]) 0 0 (va_A [(h_d, .inr (2, [.int d_index, .int d_flags, .int d_flagTwice, .int d_width, .int d_precision, .int d_conversion, .int d_next])), (h_r, .inr (0, [.ref h_r_kept, .int r_length])), (h_r_kept, .inl (cC, r_kept_n, .inl r_kept))] sz) := by
  refine mm_of (own := "DirectivePrinter$Directive") (cc := b_Directive_readIndex) (maxL := 4) (ret := none) (by decide) rfl rfl ?_
  intro p e s m below meth c hsz C0 hw hname
  generalize (va_A [(h_d, .inr (2, [.int d_index, .int d_flags, .int d_flagTwice, .int d_width, .int d_precision, .int d_conversion, .int d_next])), (h_r, .inr (0, [.ref h_r_kept, .int r_length])), (h_r_kept, .inl (cC, r_kept_n, .inl r_kept))] sz) = A at C0 hw ⊢
  have hl := lv_entry ([.ref h_d, .ref h_r]) (n := 4) (Nat.le_of_ble_eq_true rfl)
  rw [lg_entry_eq]
  generalize (lg_sl ([.ref h_d, .ref h_r]) ++ List.replicate (4 - (lg_sl ([.ref h_d, .ref h_r])).length) Slot.unset).toArray = ls at hl ⊢
  have hl : lv_has ls 4 [(0, .ref h_d), (1, .ref h_r)] := hl
  obtain ⟨hx, hb, hr, hml, hown, hts, hlocks, hK, hZ, hA⟩ := id C0
  generalize s.heap = H at hw ⊢
  unfold f_Directive_readIndex at hf
  refine lv_aload_n hx hb d_Directive_readIndex_0 rfl (lv_at hl 0 rfl) ?_
  refine va_get (D := (dC, dI)) (ci := 2) (v := .int d_next) (C := "DirectivePrinter$Directive") (T := T_Directive) (N := 7) hx hb hts (mm_up i_Directive) hown hK hw.1 0 rfl rfl 6 (by decide) (hts _ (List.mem_cons_of_mem _ q_146)) (fun _ h9 => h9) rfl d_Directive_readIndex_1 ?_
  refine lv_istore_n (lv' := [(2, .int d_next), (0, .ref h_d), (1, .ref h_r)]) hx hb d_Directive_readIndex_4 rfl hl (by decide) rfl (fun ls hl => ?_)
  refine lv_aload_n hx hb d_Directive_readIndex_5 rfl (lv_at hl 1 rfl) ?_
  refine lv_iconst (v := (-1 : Int32)) hx hb d_Directive_readIndex_6 (by decide) ?_
  refine va_put (D := (dC, dI)) (ci := 2) (v := .int (-1 : Int32)) (ty := .int) (C := "DirectivePrinter$Directive") (T := T_Directive) (N := 7) hx hb hts (mm_up i_Directive) t_Directive t_Directive_ok n_Directive hown hK hw.1 hw.2.1 hw.2.2 0 rfl rfl 0 (by decide) (hts _ (List.mem_cons_of_mem _ q_137)) (fun _ h9 => h9) rfl (by decide +kernel) rfl rfl (Nat.le_of_ble_eq_true rfl) d_Directive_readIndex_7 (fun H locs hP hD hS => ?_)
  have hw : mm_w (dC, dI) vwC A s [(h_d, .inr (2, [.int (-1 : Int32), .int d_flags, .int d_flagTwice, .int d_width, .int d_precision, .int d_conversion, .int d_next])), (h_r, .inr (0, [.ref h_r_kept, .int r_length])), (h_r_kept, .inl (cC, r_kept_n, .inl r_kept))] H locs := ⟨hP, hD, hS⟩
  refine lv_aload_n hx hb d_Directive_readIndex_10 rfl (lv_at hl 2 rfl) ?_
  refine lv_iload_n hx hb d_Directive_readIndex_11 rfl (lv_at hl 0 rfl) ?_
  obtain ⟨r_1, hu, hf⟩ := mm_b1_ok hf
  refine mm_ci (wr := [(h_d, .inr (2, [.int (-1 : Int32), .int d_flags, .int d_flagTwice, .int d_width, .int d_precision, .int d_conversion, .int d_next]))]) (va_runV (As := [.int d_next]) (rest := []) ⟨hx, hb, hml, hown, hts⟩ (c_Row_at l Zo dC dI cC cI cJ cQ r_kept_n r_kept r_length d_next h_r h_r_kept H.size r_1 hu) (cwV 1 hts (mm_gV q_289 q_274 q_275 q_55 q_276) rfl rfl rfl (by decide +kernel) ⟨Nat.le_of_ble_eq_true rfl, Nat.le_of_ble_eq_true rfl⟩) (mm_pv Zo.1 hK hw hZ hA [1, 2] (by decide) rfl rfl (ci := 0) (q0 := 0) rfl rfl) rfl rfl hl.1 rfl (lv_room (Nat.le_of_ble_eq_true rfl)) d_Directive_readIndex_12 ⟨Nat.le_refl _, Nat.le_refl _⟩) hw hA [1, 2] [0] rfl rfl (by decide) (by decide) (fun H locs hw => ?_)
  have hw : mm_w (dC, dI) vwC A s [(h_d, .inr (2, [.int (-1 : Int32), .int d_flags, .int d_flagTwice, .int d_width, .int d_precision, .int d_conversion, .int d_next])), (h_r, .inr (0, [.ref h_r_kept, .int r_length])), (h_r_kept, .inl (cC, r_kept_n, .inl r_kept))] H locs := hw
  refine lv_bipush (v := (48 : Int32)) hx hb d_Directive_readIndex_15 (by decide) ?_
  refine lv_icmp_ne (tgt := 21) hx hb d_Directive_readIndex_17 (by decide) (fun hc => ?_) (fun hc => ?_)
  · replace hf := mm_in hc hf
    refine lv_aload_n hx hb d_Directive_readIndex_21 rfl (lv_at hl 1 rfl) ?_
    refine lv_aload_n hx hb d_Directive_readIndex_22 rfl (lv_at hl 2 rfl) ?_
    obtain ⟨r_2, o_3, hu, hf⟩ := mm_b2_ok hf
    refine mm_ci (wr := []) (va_runV (As := [.ref h_r]) (rest := []) ⟨hx, hb, hml, hown, hts⟩ (c_Directive_readNumber l Zo dC dI cC cI cJ cQ N (-1 : Int32) d_flags d_flagTwice d_width d_precision d_conversion d_next r_kept_n r_kept r_length h_d h_r h_r_kept H.size (r_2, o_3) hu) (cwV 1 hts (mm_gV q_290 q_292 q_3 q_60 q_293) rfl rfl rfl (by decide +kernel) ⟨Nat.le_of_ble_eq_true rfl, Nat.le_of_ble_eq_true rfl⟩) (mm_pv Zo.1 hK hw hZ hA [0, 1, 2] (by decide) rfl rfl (ci := 2) (q0 := 0) rfl rfl) rfl rfl hl.1 rfl (lv_room (Nat.le_of_ble_eq_true rfl)) d_Directive_readIndex_23 ⟨Nat.le_refl _, Nat.le_refl _⟩) hw hA [0, 1, 2] [] rfl rfl (by decide) (by decide) (fun H locs hw => ?_)
    have hw : mm_w (dC, dI) vwC A s [(h_d, .inr (2, [.int (-1 : Int32), .int d_flags, .int d_flagTwice, .int d_width, .int d_precision, .int d_conversion, .int o_3])), (h_r, .inr (0, [.ref h_r_kept, .int r_length])), (h_r_kept, .inl (cC, r_kept_n, .inl r_kept))] H locs := hw
    refine lv_istore_n (lv' := [(3, .int r_2), (2, .int d_next), (0, .ref h_d), (1, .ref h_r)]) hx hb d_Directive_readIndex_26 rfl hl (by decide) rfl (fun ls hl => ?_)
    refine lv_iload_n hx hb d_Directive_readIndex_27 rfl (lv_at hl 0 rfl) ?_
    refine lv_iconst (v := (-1 : Int32)) hx hb d_Directive_readIndex_28 (by decide) ?_
    refine lv_icmp_eq (tgt := 63) hx hb d_Directive_readIndex_29 (by decide) (fun hc => ?_) (fun hc => ?_)
    · replace hf := mm_ip hc hf
      refine lv_aload_n hx hb d_Directive_readIndex_63 rfl (lv_at hl 2 rfl) ?_
      refine lv_iload_n hx hb d_Directive_readIndex_64 rfl (lv_at hl 1 rfl) ?_
      refine va_put (D := (dC, dI)) (ci := 2) (v := .int d_next) (ty := .int) (C := "DirectivePrinter$Directive") (T := T_Directive) (N := 7) hx hb hts (mm_up i_Directive) t_Directive t_Directive_ok n_Directive hown hK hw.1 hw.2.1 hw.2.2 0 rfl rfl 6 (by decide) (hts _ (List.mem_cons_of_mem _ q_146)) (fun _ h9 => h9) rfl (by decide +kernel) rfl rfl (Nat.le_of_ble_eq_true rfl) d_Directive_readIndex_65 (fun H locs hP hD hS => ?_)
      have hw : mm_w (dC, dI) vwC A s [(h_d, .inr (2, [.int (-1 : Int32), .int d_flags, .int d_flagTwice, .int d_width, .int d_precision, .int d_conversion, .int d_next])), (h_r, .inr (0, [.ref h_r_kept, .int r_length])), (h_r_kept, .inl (cC, r_kept_n, .inl r_kept))] H locs := ⟨hP, hD, hS⟩
      obtain rfl := Option.some.inj hf
      exact mm_vret hx hb hr hlocks hK (mm_wsub hw [0, 1, 2] (by decide) rfl rfl) d_Directive_readIndex_68
    · replace hf := mm_in hc hf
      refine lv_aload_n hx hb d_Directive_readIndex_32 rfl (lv_at hl 3 rfl) ?_
      refine lv_aload_n hx hb d_Directive_readIndex_33 rfl (lv_at hl 2 rfl) ?_
      refine va_get (D := (dC, dI)) (ci := 2) (v := .int o_3) (C := "DirectivePrinter$Directive") (T := T_Directive) (N := 7) hx hb hts (mm_up i_Directive) hown hK hw.1 0 rfl rfl 6 (by decide) (hts _ (List.mem_cons_of_mem _ q_146)) (fun _ h9 => h9) rfl d_Directive_readIndex_34 ?_
      obtain ⟨r_4, hu, hf⟩ := mm_b1_ok hf
      refine mm_ci (wr := [(h_d, .inr (2, [.int (-1 : Int32), .int d_flags, .int d_flagTwice, .int d_width, .int d_precision, .int d_conversion, .int o_3]))]) (va_runV (As := [.int o_3]) (rest := []) ⟨hx, hb, hml, hown, hts⟩ (c_Row_at l Zo dC dI cC cI cJ cQ r_kept_n r_kept r_length o_3 h_r h_r_kept H.size r_4 hu) (cwV 1 hts (mm_gV q_289 q_274 q_275 q_55 q_276) rfl rfl rfl (by decide +kernel) ⟨Nat.le_of_ble_eq_true rfl, Nat.le_of_ble_eq_true rfl⟩) (mm_pv Zo.1 hK hw hZ hA [1, 2] (by decide) rfl rfl (ci := 0) (q0 := 0) rfl rfl) rfl rfl hl.1 rfl (lv_room (Nat.le_of_ble_eq_true rfl)) d_Directive_readIndex_37 ⟨Nat.le_refl _, Nat.le_refl _⟩) hw hA [1, 2] [0] rfl rfl (by decide) (by decide) (fun H locs hw => ?_)
      have hw : mm_w (dC, dI) vwC A s [(h_d, .inr (2, [.int (-1 : Int32), .int d_flags, .int d_flagTwice, .int d_width, .int d_precision, .int d_conversion, .int o_3])), (h_r, .inr (0, [.ref h_r_kept, .int r_length])), (h_r_kept, .inl (cC, r_kept_n, .inl r_kept))] H locs := hw
      refine lv_bipush (v := (36 : Int32)) hx hb d_Directive_readIndex_40 (by decide) ?_
      refine lv_icmp_ne (tgt := 63) hx hb d_Directive_readIndex_42 (by decide) (fun hc => ?_) (fun hc => ?_)
      · replace hf := mm_in hc hf
        refine lv_aload_n hx hb d_Directive_readIndex_63 rfl (lv_at hl 2 rfl) ?_
        refine lv_iload_n hx hb d_Directive_readIndex_64 rfl (lv_at hl 1 rfl) ?_
        refine va_put (D := (dC, dI)) (ci := 2) (v := .int d_next) (ty := .int) (C := "DirectivePrinter$Directive") (T := T_Directive) (N := 7) hx hb hts (mm_up i_Directive) t_Directive t_Directive_ok n_Directive hown hK hw.1 hw.2.1 hw.2.2 0 rfl rfl 6 (by decide) (hts _ (List.mem_cons_of_mem _ q_146)) (fun _ h9 => h9) rfl (by decide +kernel) rfl rfl (Nat.le_of_ble_eq_true rfl) d_Directive_readIndex_65 (fun H locs hP hD hS => ?_)
        have hw : mm_w (dC, dI) vwC A s [(h_d, .inr (2, [.int (-1 : Int32), .int d_flags, .int d_flagTwice, .int d_width, .int d_precision, .int d_conversion, .int d_next])), (h_r, .inr (0, [.ref h_r_kept, .int r_length])), (h_r_kept, .inl (cC, r_kept_n, .inl r_kept))] H locs := ⟨hP, hD, hS⟩
        obtain rfl := Option.some.inj hf
        exact mm_vret hx hb hr hlocks hK (mm_wsub hw [0, 1, 2] (by decide) rfl rfl) d_Directive_readIndex_68
      · replace hf := mm_ip hc hf
        refine lv_aload_n hx hb d_Directive_readIndex_45 rfl (lv_at hl 2 rfl) ?_
        refine lv_iload_n hx hb d_Directive_readIndex_46 rfl (lv_at hl 0 rfl) ?_
        refine va_put (D := (dC, dI)) (ci := 2) (v := .int r_2) (ty := .int) (C := "DirectivePrinter$Directive") (T := T_Directive) (N := 7) hx hb hts (mm_up i_Directive) t_Directive t_Directive_ok n_Directive hown hK hw.1 hw.2.1 hw.2.2 0 rfl rfl 0 (by decide) (hts _ (List.mem_cons_of_mem _ q_137)) (fun _ h9 => h9) rfl (by decide +kernel) rfl rfl (Nat.le_of_ble_eq_true rfl) d_Directive_readIndex_47 (fun H locs hP hD hS => ?_)
        have hw : mm_w (dC, dI) vwC A s [(h_d, .inr (2, [.int r_2, .int d_flags, .int d_flagTwice, .int d_width, .int d_precision, .int d_conversion, .int o_3])), (h_r, .inr (0, [.ref h_r_kept, .int r_length])), (h_r_kept, .inl (cC, r_kept_n, .inl r_kept))] H locs := ⟨hP, hD, hS⟩
        refine lv_aload_n hx hb d_Directive_readIndex_50 rfl (lv_at hl 2 rfl) ?_
        refine lv_dup hx hb d_Directive_readIndex_51 rfl ?_
        refine va_get (D := (dC, dI)) (ci := 2) (v := .int o_3) (C := "DirectivePrinter$Directive") (T := T_Directive) (N := 7) hx hb hts (mm_up i_Directive) hown hK hw.1 0 rfl rfl 6 (by decide) (hts _ (List.mem_cons_of_mem _ q_146)) (fun _ h9 => h9) rfl d_Directive_readIndex_52 ?_
        refine lv_iconst (v := (1 : Int32)) hx hb d_Directive_readIndex_55 (by decide) ?_
        refine lv_iadd hx hb d_Directive_readIndex_56 ?_
        refine va_put (D := (dC, dI)) (ci := 2) (v := .int (o_3 + (1 : Int32))) (ty := .int) (C := "DirectivePrinter$Directive") (T := T_Directive) (N := 7) hx hb hts (mm_up i_Directive) t_Directive t_Directive_ok n_Directive hown hK hw.1 hw.2.1 hw.2.2 0 rfl rfl 6 (by decide) (hts _ (List.mem_cons_of_mem _ q_146)) (fun _ h9 => h9) rfl (by decide +kernel) rfl rfl (Nat.le_of_ble_eq_true rfl) d_Directive_readIndex_57 (fun H locs hP hD hS => ?_)
        have hw : mm_w (dC, dI) vwC A s [(h_d, .inr (2, [.int r_2, .int d_flags, .int d_flagTwice, .int d_width, .int d_precision, .int d_conversion, .int (o_3 + (1 : Int32))])), (h_r, .inr (0, [.ref h_r_kept, .int r_length])), (h_r_kept, .inl (cC, r_kept_n, .inl r_kept))] H locs := ⟨hP, hD, hS⟩
        refine lv_goto (tgt := 68) hx hb d_Directive_readIndex_60 (by decide) ?_
        obtain rfl := Option.some.inj hf
        exact mm_vret hx hb hr hlocks hK (mm_wsub hw [0, 1, 2] (by decide) rfl rfl) d_Directive_readIndex_68
  · replace hf := mm_ip hc hf
    obtain rfl := Option.some.inj hf
    exact mm_vret hx hb hr hlocks hK (mm_wsub hw [0, 1, 2] (by decide) rfl rfl) d_Directive_readIndex_20
/-! DirectivePrinter$Directive.readPrecision(LDirectivePrinter$Row;)V -/
def f_Directive_readPrecision (N : Nat) (d_next : Int32) (r_kept_n : Nat) (r_kept : Nat → Int32) (r_length : Int32) : Option (Int32 × Int32) := mm_b1 (f_Row_at r_kept_n r_kept r_length d_next) (fun r_1 => (if r_1 = (46 : Int32) then mm_b1 (f_Row_at r_kept_n r_kept r_length (d_next + (1 : Int32))) (fun r_2 => mm_b1 (f_Directive_isDigit r_2) (fun r_3 => (if r_3 = 0 then some ((-1 : Int32), d_next) else mm_b2 (f_Directive_readNumber N (d_next + (1 : Int32)) r_kept_n r_kept r_length) (fun r_4 o_5 => some (r_4, o_5))))) else some ((-1 : Int32), d_next)))
abbrev r_Directive_readPrecision : Room := { frames := 2, cells := 0, slots := 0, locals := 45 }
set_option maxHeartbeats 4000000 in
set_option maxRecDepth 100000 in
theorem c_Directive_readPrecision (l : Launch) {Z : (Nat → Prop) → State → Heap → Prop} {ad adK adV : Nat → Nat} (Zo : mm_Zx Z ad adK adV) (dC : Nat → ClassId) (dI : Nat → Nat → Nat) (cC cI cJ cQ : ClassId) (N : Nat) (d_index : Int32) (d_flags : Int32) (d_flagTwice : Int32) (d_width : Int32) (d_precision : Int32) (d_conversion : Int32) (d_next : Int32) (r_kept_n : Nat) (r_kept : Nat → Int32) (r_length : Int32) (h_d h_r h_r_kept : Nat) (sz : Nat) (out : Int32 × Int32) (hf : f_Directive_readPrecision N d_next r_kept_n r_kept r_length = some out) : Met l y_Directive_readPrecision w_Directive_readPrecision r_Directive_readPrecision (mm_pre (dC, dI) vwC (tyl cC cI cJ cQ) Z [(h_d, .inr (2, [.int d_index, .int d_flags, .int d_flagTwice, .int d_width, .int d_precision, .int d_conversion, .int d_next])), (h_r, .inr (0, [.ref h_r_kept, .int r_length])), (h_r_kept, .inl (cC, r_kept_n, .inl r_kept))] sz [.ref h_d, .ref h_r]) (mm_qv (dC, dI) vwC (tyl cC cI cJ cQ) (va_A [(h_d, .inr (2, [.int d_index, .int d_flags, .int d_flagTwice, .int d_width, .int d_precision, .int d_conversion, .int d_next])), (h_r, .inr (0, [.ref h_r_kept, .int r_length])), (h_r_kept, .inl (cC, r_kept_n, .inl r_kept))] sz) [(h_d, .inr (2, [.int d_index, .int d_flags, .int d_flagTwice, .int d_width, .int out.1, .int d_conversion, .int out.2])), (h_r, .inr (0, [.ref h_r_kept, .int r_length])), (h_r_kept, .inl (cC, r_kept_n, .inl r_kept))]) 0 0 (va_A [(h_d, .inr (2, [.int d_index, .int d_flags, .int d_flagTwice, .int d_width, .int d_precision, .int d_conversion, .int d_next])), (h_r, .inr (0, [.ref h_r_kept, .int r_length])), (h_r_kept, .inl (cC, r_kept_n, .inl r_kept))] sz) := by
  refine mm_of (own := "DirectivePrinter$Directive") (cc := b_Directive_readPrecision) (maxL := 2) (ret := none) (by decide) rfl rfl ?_
  intro p e s m below meth c hsz C0 hw hname
  generalize (va_A [(h_d, .inr (2, [.int d_index, .int d_flags, .int d_flagTwice, .int d_width, .int d_precision, .int d_conversion, .int d_next])), (h_r, .inr (0, [.ref h_r_kept, .int r_length])), (h_r_kept, .inl (cC, r_kept_n, .inl r_kept))] sz) = A at C0 hw ⊢
  have hl := lv_entry ([.ref h_d, .ref h_r]) (n := 2) (Nat.le_of_ble_eq_true rfl)
  rw [lg_entry_eq]
  generalize (lg_sl ([.ref h_d, .ref h_r]) ++ List.replicate (2 - (lg_sl ([.ref h_d, .ref h_r])).length) Slot.unset).toArray = ls at hl ⊢
  have hl : lv_has ls 2 [(0, .ref h_d), (1, .ref h_r)] := hl
  obtain ⟨hx, hb, hr, hml, hown, hts, hlocks, hK, hZ, hA⟩ := id C0
  generalize s.heap = H at hw ⊢
  unfold f_Directive_readPrecision at hf
  refine lv_aload_n hx hb d_Directive_readPrecision_0 rfl (lv_at hl 0 rfl) ?_
  refine lv_iconst (v := (-1 : Int32)) hx hb d_Directive_readPrecision_1 (by decide) ?_
  refine va_put (D := (dC, dI)) (ci := 2) (v := .int (-1 : Int32)) (ty := .int) (C := "DirectivePrinter$Directive") (T := T_Directive) (N := 7) hx hb hts (mm_up i_Directive) t_Directive t_Directive_ok n_Directive hown hK hw.1 hw.2.1 hw.2.2 0 rfl rfl 4 (by decide) (hts _ (List.mem_cons_of_mem _ q_143)) (fun _ h9 => h9) rfl (by decide +kernel) rfl rfl (Nat.le_of_ble_eq_true rfl) d_Directive_readPrecision_2 (fun H locs hP hD hS => ?_)
  have hw : mm_w (dC, dI) vwC A s [(h_d, .inr (2, [.int d_index, .int d_flags, .int d_flagTwice, .int d_width, .int (-1 : Int32), .int d_conversion, .int d_next])), (h_r, .inr (0, [.ref h_r_kept, .int r_length])), (h_r_kept, .inl (cC, r_kept_n, .inl r_kept))] H locs := ⟨hP, hD, hS⟩
  refine lv_aload_n hx hb d_Directive_readPrecision_5 rfl (lv_at hl 1 rfl) ?_
  refine lv_aload_n hx hb d_Directive_readPrecision_6 rfl (lv_at hl 0 rfl) ?_
  refine va_get (D := (dC, dI)) (ci := 2) (v := .int d_next) (C := "DirectivePrinter$Directive") (T := T_Directive) (N := 7) hx hb hts (mm_up i_Directive) hown hK hw.1 0 rfl rfl 6 (by decide) (hts _ (List.mem_cons_of_mem _ q_146)) (fun _ h9 => h9) rfl d_Directive_readPrecision_7 ?_
  obtain ⟨r_1, hu, hf⟩ := mm_b1_ok hf
  refine mm_ci (wr := [(h_d, .inr (2, [.int d_index, .int d_flags, .int d_flagTwice, .int d_width, .int (-1 : Int32), .int d_conversion, .int d_next]))]) (va_runV (As := [.int d_next]) (rest := []) ⟨hx, hb, hml, hown, hts⟩ (c_Row_at l Zo dC dI cC cI cJ cQ r_kept_n r_kept r_length d_next h_r h_r_kept H.size r_1 hu) (cwV 1 hts (mm_gV q_289 q_274 q_275 q_55 q_276) rfl rfl rfl (by decide +kernel) ⟨Nat.le_of_ble_eq_true rfl, Nat.le_of_ble_eq_true rfl⟩) (mm_pv Zo.1 hK hw hZ hA [1, 2] (by decide) rfl rfl (ci := 0) (q0 := 0) rfl rfl) rfl rfl hl.1 rfl (lv_room (Nat.le_of_ble_eq_true rfl)) d_Directive_readPrecision_10 ⟨Nat.le_refl _, Nat.le_refl _⟩) hw hA [1, 2] [0] rfl rfl (by decide) (by decide) (fun H locs hw => ?_)
  have hw : mm_w (dC, dI) vwC A s [(h_d, .inr (2, [.int d_index, .int d_flags, .int d_flagTwice, .int d_width, .int (-1 : Int32), .int d_conversion, .int d_next])), (h_r, .inr (0, [.ref h_r_kept, .int r_length])), (h_r_kept, .inl (cC, r_kept_n, .inl r_kept))] H locs := hw
  refine lv_bipush (v := (46 : Int32)) hx hb d_Directive_readPrecision_13 (by decide) ?_
  refine lv_icmp_ne (tgt := 53) hx hb d_Directive_readPrecision_15 (by decide) (fun hc => ?_) (fun hc => ?_)
  · replace hf := mm_in hc hf
    obtain rfl := Option.some.inj hf
    exact mm_vret hx hb hr hlocks hK (mm_wsub hw [0, 1, 2] (by decide) rfl rfl) d_Directive_readPrecision_53
  · replace hf := mm_ip hc hf
    refine lv_aload_n hx hb d_Directive_readPrecision_18 rfl (lv_at hl 1 rfl) ?_
    refine lv_aload_n hx hb d_Directive_readPrecision_19 rfl (lv_at hl 0 rfl) ?_
    refine va_get (D := (dC, dI)) (ci := 2) (v := .int d_next) (C := "DirectivePrinter$Directive") (T := T_Directive) (N := 7) hx hb hts (mm_up i_Directive) hown hK hw.1 0 rfl rfl 6 (by decide) (hts _ (List.mem_cons_of_mem _ q_146)) (fun _ h9 => h9) rfl d_Directive_readPrecision_20 ?_
    refine lv_iconst (v := (1 : Int32)) hx hb d_Directive_readPrecision_23 (by decide) ?_
    refine lv_iadd hx hb d_Directive_readPrecision_24 ?_
    obtain ⟨r_2, hu, hf⟩ := mm_b1_ok hf
    refine mm_ci (wr := [(h_d, .inr (2, [.int d_index, .int d_flags, .int d_flagTwice, .int d_width, .int (-1 : Int32), .int d_conversion, .int d_next]))]) (va_runV (As := [.int (d_next + (1 : Int32))]) (rest := []) ⟨hx, hb, hml, hown, hts⟩ (c_Row_at l Zo dC dI cC cI cJ cQ r_kept_n r_kept r_length (d_next + (1 : Int32)) h_r h_r_kept H.size r_2 hu) (cwV 1 hts (mm_gV q_289 q_274 q_275 q_55 q_276) rfl rfl rfl (by decide +kernel) ⟨Nat.le_of_ble_eq_true rfl, Nat.le_of_ble_eq_true rfl⟩) (mm_pv Zo.1 hK hw hZ hA [1, 2] (by decide) rfl rfl (ci := 0) (q0 := 0) rfl rfl) rfl rfl hl.1 rfl (lv_room (Nat.le_of_ble_eq_true rfl)) d_Directive_readPrecision_25 ⟨Nat.le_refl _, Nat.le_refl _⟩) hw hA [1, 2] [0] rfl rfl (by decide) (by decide) (fun H locs hw => ?_)
    have hw : mm_w (dC, dI) vwC A s [(h_d, .inr (2, [.int d_index, .int d_flags, .int d_flagTwice, .int d_width, .int (-1 : Int32), .int d_conversion, .int d_next])), (h_r, .inr (0, [.ref h_r_kept, .int r_length])), (h_r_kept, .inl (cC, r_kept_n, .inl r_kept))] H locs := hw
    obtain ⟨r_3, hu, hf⟩ := mm_b1_ok hf
    refine mm_ci (wr := [(h_d, .inr (2, [.int d_index, .int d_flags, .int d_flagTwice, .int d_width, .int (-1 : Int32), .int d_conversion, .int d_next])), (h_r, .inr (0, [.ref h_r_kept, .int r_length])), (h_r_kept, .inl (cC, r_kept_n, .inl r_kept))]) (va_runS (As := [.int r_2]) (rest := []) ⟨hx, hb, hml, hown, hts⟩ (c_Directive_isDigit l Zo dC dI cC cI cJ cQ r_2  H.size r_3 hu) (va_cwS 1 hts (mm_gS q_295 q_296 q_60 q_297) rfl rfl rfl (by decide +kernel) ⟨Nat.le_of_ble_eq_true rfl, Nat.le_of_ble_eq_true rfl⟩) (mm_ps Zo.1 hK hw hZ hA [] (by decide) rfl rfl) rfl rfl hl.1 rfl (lv_room (Nat.le_of_ble_eq_true rfl)) d_Directive_readPrecision_28 ⟨Nat.le_refl _, Nat.le_refl _⟩) hw hA [] [0, 1, 2] rfl rfl (by decide) (by decide) (fun H locs hw => ?_)
    have hw : mm_w (dC, dI) vwC A s [(h_d, .inr (2, [.int d_index, .int d_flags, .int d_flagTwice, .int d_width, .int (-1 : Int32), .int d_conversion, .int d_next])), (h_r, .inr (0, [.ref h_r_kept, .int r_length])), (h_r_kept, .inl (cC, r_kept_n, .inl r_kept))] H locs := hw
    refine lv_if_eq (tgt := 53) hx hb d_Directive_readPrecision_31 (by decide) (fun hc => ?_) (fun hc => ?_)
    · replace hf := mm_ip hc hf
      obtain rfl := Option.some.inj hf
      exact mm_vret hx hb hr hlocks hK (mm_wsub hw [0, 1, 2] (by decide) rfl rfl) d_Directive_readPrecision_53
    · replace hf := mm_in hc hf
      refine lv_aload_n hx hb d_Directive_readPrecision_34 rfl (lv_at hl 0 rfl) ?_
      refine lv_dup hx hb d_Directive_readPrecision_35 rfl ?_
      refine va_get (D := (dC, dI)) (ci := 2) (v := .int d_next) (C := "DirectivePrinter$Directive") (T := T_Directive) (N := 7) hx hb hts (mm_up i_Directive) hown hK hw.1 0 rfl rfl 6 (by decide) (hts _ (List.mem_cons_of_mem _ q_146)) (fun _ h9 => h9) rfl d_Directive_readPrecision_36 ?_
      refine lv_iconst (v := (1 : Int32)) hx hb d_Directive_readPrecision_39 (by decide) ?_
      refine lv_iadd hx hb d_Directive_readPrecision_40 ?_
      refine va_put (D := (dC, dI)) (ci := 2) (v := .int (d_next + (1 : Int32))) (ty := .int) (C := "DirectivePrinter$Directive") (T := T_Directive) (N := 7) hx hb hts (mm_up i_Directive) t_Directive t_Directive_ok n_Directive hown hK hw.1 hw.2.1 hw.2.2 0 rfl rfl 6 (by decide) (hts _ (List.mem_cons_of_mem _ q_146)) (fun _ h9 => h9) rfl (by decide +kernel) rfl rfl (Nat.le_of_ble_eq_true rfl) d_Directive_readPrecision_41 (fun H locs hP hD hS => ?_)
      have hw : mm_w (dC, dI) vwC A s [(h_d, .inr (2, [.int d_index, .int d_flags, .int d_flagTwice, .int d_width, .int (-1 : Int32), .int d_conversion, .int (d_next + (1 : Int32))])), (h_r, .inr (0, [.ref h_r_kept, .int r_length])), (h_r_kept, .inl (cC, r_kept_n, .inl r_kept))] H locs := ⟨hP, hD, hS⟩
      refine lv_aload_n hx hb d_Directive_readPrecision_44 rfl (lv_at hl 0 rfl) ?_
      refine lv_aload_n hx hb d_Directive_readPrecision_45 rfl (lv_at hl 0 rfl) ?_
      refine lv_aload_n hx hb d_Directive_readPrecision_46 rfl (lv_at hl 1 rfl) ?_
      obtain ⟨r_4, o_5, hu, hf⟩ := mm_b2_ok hf
      refine mm_ci (wr := []) (va_runV (As := [.ref h_r]) (rest := [.ref h_d]) ⟨hx, hb, hml, hown, hts⟩ (c_Directive_readNumber l Zo dC dI cC cI cJ cQ N d_index d_flags d_flagTwice d_width (-1 : Int32) d_conversion (d_next + (1 : Int32)) r_kept_n r_kept r_length h_d h_r h_r_kept H.size (r_4, o_5) hu) (cwV 1 hts (mm_gV q_290 q_292 q_3 q_60 q_293) rfl rfl rfl (by decide +kernel) ⟨Nat.le_of_ble_eq_true rfl, Nat.le_of_ble_eq_true rfl⟩) (mm_pv Zo.1 hK hw hZ hA [0, 1, 2] (by decide) rfl rfl (ci := 2) (q0 := 0) rfl rfl) rfl rfl hl.1 rfl (lv_room (Nat.le_of_ble_eq_true rfl)) d_Directive_readPrecision_47 ⟨Nat.le_refl _, Nat.le_refl _⟩) hw hA [0, 1, 2] [] rfl rfl (by decide) (by decide) (fun H locs hw => ?_)
      have hw : mm_w (dC, dI) vwC A s [(h_d, .inr (2, [.int d_index, .int d_flags, .int d_flagTwice, .int d_width, .int (-1 : Int32), .int d_conversion, .int o_5])), (h_r, .inr (0, [.ref h_r_kept, .int r_length])), (h_r_kept, .inl (cC, r_kept_n, .inl r_kept))] H locs := hw
      refine va_put (D := (dC, dI)) (ci := 2) (v := .int r_4) (ty := .int) (C := "DirectivePrinter$Directive") (T := T_Directive) (N := 7) hx hb hts (mm_up i_Directive) t_Directive t_Directive_ok n_Directive hown hK hw.1 hw.2.1 hw.2.2 0 rfl rfl 4 (by decide) (hts _ (List.mem_cons_of_mem _ q_143)) (fun _ h9 => h9) rfl (by decide +kernel) rfl rfl (Nat.le_of_ble_eq_true rfl) d_Directive_readPrecision_50 (fun H locs hP hD hS => ?_)
      have hw : mm_w (dC, dI) vwC A s [(h_d, .inr (2, [.int d_index, .int d_flags, .int d_flagTwice, .int d_width, .int r_4, .int d_conversion, .int o_5])), (h_r, .inr (0, [.ref h_r_kept, .int r_length])), (h_r_kept, .inl (cC, r_kept_n, .inl r_kept))] H locs := ⟨hP, hD, hS⟩
      obtain rfl := Option.some.inj hf
      exact mm_vret hx hb hr hlocks hK (mm_wsub hw [0, 1, 2] (by decide) rfl rfl) d_Directive_readPrecision_53
/-! DirectivePrinter$Directive.allowedFlags()I -/
def f_Directive_allowedFlags (d_conversion : Int32) : Option (Int32) := mm_b1 (f_Directive_smallConversion d_conversion) (fun r_1 => (if r_1 = (100 : Int32) then some ((253 : Int32)) else (if r_1 = (101 : Int32) then some ((239 : Int32)) else (if r_1 = (102 : Int32) then some ((255 : Int32)) else (if r_1 = (103 : Int32) then some ((253 : Int32)) else (if r_1 = (111 : Int32) then some ((75 : Int32)) else (if r_1 = (120 : Int32) then some ((75 : Int32)) else some ((65 : Int32)))))))))
abbrev r_Directive_allowedFlags : Room := { frames := 2, cells := 0, slots := 0, locals := 40 }
set_option maxHeartbeats 4000000 in
set_option maxRecDepth 100000 in
theorem c_Directive_allowedFlags (l : Launch) {Z : (Nat → Prop) → State → Heap → Prop} {ad adK adV : Nat → Nat} (Zo : mm_Zx Z ad adK adV) (dC : Nat → ClassId) (dI : Nat → Nat → Nat) (cC cI cJ cQ : ClassId) (d_index : Int32) (d_flags : Int32) (d_flagTwice : Int32) (d_width : Int32) (d_precision : Int32) (d_conversion : Int32) (d_next : Int32) (h_d : Nat) (sz : Nat) (out : Int32) (hf : f_Directive_allowedFlags d_conversion = some out) : Met l y_Directive_allowedFlags w_Directive_allowedFlags r_Directive_allowedFlags (mm_pre (dC, dI) vwC (tyl cC cI cJ cQ) Z [(h_d, .inr (2, [.int d_index, .int d_flags, .int d_flagTwice, .int d_width, .int d_precision, .int d_conversion, .int d_next]))] sz [.ref h_d]) (mm_qi (dC, dI) vwC (tyl cC cI cJ cQ) (va_A [(h_d, .inr (2, [.int d_index, .int d_flags, .int d_flagTwice, .int d_width, .int d_precision, .int d_conversion, .int d_next]))] sz) [(h_d, .inr (2, [.int d_index, .int d_flags, .int d_flagTwice, .int d_width, .int d_precision, .int d_conversion, .int d_next]))] out) 0 0 (va_A [(h_d, .inr (2, [.int d_index, .int d_flags, .int d_flagTwice, .int d_width, .int d_precision, .int d_conversion, .int d_next]))] sz) := by
  refine mm_of (own := "DirectivePrinter$Directive") (cc := b_Directive_allowedFlags) (maxL := 1) (ret := (some .int)) (by decide) rfl rfl ?_
  intro p e s m below meth c hsz C0 hw hname
  generalize (va_A [(h_d, .inr (2, [.int d_index, .int d_flags, .int d_flagTwice, .int d_width, .int d_precision, .int d_conversion, .int d_next]))] sz) = A at C0 hw ⊢
  have hl := lv_entry ([.ref h_d]) (n := 1) (Nat.le_of_ble_eq_true rfl)
  rw [lg_entry_eq]
  generalize (lg_sl ([.ref h_d]) ++ List.replicate (1 - (lg_sl ([.ref h_d])).length) Slot.unset).toArray = ls at hl ⊢
  have hl : lv_has ls 1 [(0, .ref h_d)] := hl
  obtain ⟨hx, hb, hr, hml, hown, hts, hlocks, hK, hZ, hA⟩ := id C0
  generalize s.heap = H at hw ⊢
  unfold f_Directive_allowedFlags at hf
  refine lv_aload_n hx hb d_Directive_allowedFlags_0 rfl (lv_at hl 0 rfl) ?_
  obtain ⟨r_1, hu, hf⟩ := mm_b1_ok hf
  refine mm_ci (wr := []) (va_runV (As := []) (rest := []) ⟨hx, hb, hml, hown, hts⟩ (c_Directive_smallConversion l Zo dC dI cC cI cJ cQ d_index d_flags d_flagTwice d_width d_precision d_conversion d_next h_d H.size r_1 hu) (cwV 0 hts (mm_gV q_411 q_412 q_413 q_60 q_414) rfl rfl rfl (by decide +kernel) ⟨Nat.le_of_ble_eq_true rfl, Nat.le_of_ble_eq_true rfl⟩) (mm_pv Zo.1 hK hw hZ hA [0] (by decide) rfl rfl (ci := 2) (q0 := 0) rfl rfl) rfl rfl hl.1 rfl (lv_room (Nat.le_of_ble_eq_true rfl)) d_Directive_allowedFlags_1 ⟨Nat.le_refl _, Nat.le_refl _⟩) hw hA [0] [] rfl rfl (by decide) (by decide) (fun H locs hw => ?_)
  have hw : mm_w (dC, dI) vwC A s [(h_d, .inr (2, [.int d_index, .int d_flags, .int d_flagTwice, .int d_width, .int d_precision, .int d_conversion, .int d_next]))] H locs := hw
  by_cases hc_100 : r_1 = (100 : Int32)
  · replace hf := mm_ip hc_100 hf
    refine lv_lookup (off := 60) (tgt := 64) hx hb d_Directive_allowedFlags_4 (by decide) (by rw [hc_100]; decide) (by decide) ?_
    refine lv_sipush (v := (253 : Int32)) hx hb d_Directive_allowedFlags_64 (by decide) ?_
    obtain rfl := Option.some.inj hf
    exact mm_iret hx hb hr hlocks hK (mm_wsub hw [0] (by decide) rfl rfl) rfl d_Directive_allowedFlags_67
  replace hf := mm_in hc_100 hf
  by_cases hc_101 : r_1 = (101 : Int32)
  · replace hf := mm_ip hc_101 hf
    refine lv_lookup (off := 71) (tgt := 75) hx hb d_Directive_allowedFlags_4 (by decide) (by rw [hc_101]; decide) (by decide) ?_
    refine lv_sipush (v := (239 : Int32)) hx hb d_Directive_allowedFlags_75 (by decide) ?_
    obtain rfl := Option.some.inj hf
    exact mm_iret hx hb hr hlocks hK (mm_wsub hw [0] (by decide) rfl rfl) rfl d_Directive_allowedFlags_78
  replace hf := mm_in hc_101 hf
  by_cases hc_102 : r_1 = (102 : Int32)
  · replace hf := mm_ip hc_102 hf
    refine lv_lookup (off := 67) (tgt := 71) hx hb d_Directive_allowedFlags_4 (by decide) (by rw [hc_102]; decide) (by decide) ?_
    refine lv_sipush (v := (255 : Int32)) hx hb d_Directive_allowedFlags_71 (by decide) ?_
    obtain rfl := Option.some.inj hf
    exact mm_iret hx hb hr hlocks hK (mm_wsub hw [0] (by decide) rfl rfl) rfl d_Directive_allowedFlags_74
  replace hf := mm_in hc_102 hf
  by_cases hc_103 : r_1 = (103 : Int32)
  · replace hf := mm_ip hc_103 hf
    refine lv_lookup (off := 60) (tgt := 64) hx hb d_Directive_allowedFlags_4 (by decide) (by rw [hc_103]; decide) (by decide) ?_
    refine lv_sipush (v := (253 : Int32)) hx hb d_Directive_allowedFlags_64 (by decide) ?_
    obtain rfl := Option.some.inj hf
    exact mm_iret hx hb hr hlocks hK (mm_wsub hw [0] (by decide) rfl rfl) rfl d_Directive_allowedFlags_67
  replace hf := mm_in hc_103 hf
  by_cases hc_111 : r_1 = (111 : Int32)
  · replace hf := mm_ip hc_111 hf
    refine lv_lookup (off := 64) (tgt := 68) hx hb d_Directive_allowedFlags_4 (by decide) (by rw [hc_111]; decide) (by decide) ?_
    refine lv_bipush (v := (75 : Int32)) hx hb d_Directive_allowedFlags_68 (by decide) ?_
    obtain rfl := Option.some.inj hf
    exact mm_iret hx hb hr hlocks hK (mm_wsub hw [0] (by decide) rfl rfl) rfl d_Directive_allowedFlags_70
  replace hf := mm_in hc_111 hf
  by_cases hc_120 : r_1 = (120 : Int32)
  · replace hf := mm_ip hc_120 hf
    refine lv_lookup (off := 64) (tgt := 68) hx hb d_Directive_allowedFlags_4 (by decide) (by rw [hc_120]; decide) (by decide) ?_
    refine lv_bipush (v := (75 : Int32)) hx hb d_Directive_allowedFlags_68 (by decide) ?_
    obtain rfl := Option.some.inj hf
    exact mm_iret hx hb hr hlocks hK (mm_wsub hw [0] (by decide) rfl rfl) rfl d_Directive_allowedFlags_70
  replace hf := mm_in hc_120 hf
  refine lv_lookup (off := 75) (tgt := 79) hx hb d_Directive_allowedFlags_4 (by decide) (mm_off hc_100 rfl (mm_off hc_101 rfl (mm_off hc_102 rfl (mm_off hc_103 rfl (mm_off hc_111 rfl (mm_off hc_120 rfl rfl)))))) (by decide) ?_
  refine lv_bipush (v := (65 : Int32)) hx hb d_Directive_allowedFlags_79 (by decide) ?_
  obtain rfl := Option.some.inj hf
  exact mm_iret hx hb hr hlocks hK (mm_wsub hw [0] (by decide) rfl rfl) rfl d_Directive_allowedFlags_81
/-! DirectivePrinter$Directive.faultOfFlags()I -/
def f_Directive_faultOfFlags_62 (d_flags : Int32) : Option (Int32) := mm_b1 (f_Directive_has d_flags (4 : Int32)) (fun r_3 => (if r_3 = 0 then some ((0 : Int32)) else mm_b1 (f_Directive_has d_flags (128 : Int32)) (fun r_4 => (if r_4 = 0 then some ((0 : Int32)) else some ((8 : Int32))))))
def f_Directive_faultOfFlags_45 (d_flags : Int32) : Option (Int32) := mm_b1 (f_Directive_has d_flags (1 : Int32)) (fun r_2 => (if r_2 = 0 then f_Directive_faultOfFlags_62 d_flags  else mm_b1 (f_Directive_has d_flags (8 : Int32)) (fun r_5 => (if r_5 = 0 then f_Directive_faultOfFlags_62 d_flags  else some ((8 : Int32))))))
def f_Directive_faultOfFlags (d_flags : Int32) (d_width : Int32) (d_conversion : Int32) : Option (Int32) := mm_b1 (f_Directive_allowedFlags d_conversion) (fun r_1 => (if (d_flags &&& (r_1 ^^^ (-1 : Int32))) = 0 then (if d_width = (-1 : Int32) then mm_b1 (f_Directive_has d_flags (1 : Int32)) (fun r_6 => (if r_6 = 0 then mm_b1 (f_Directive_has d_flags (8 : Int32)) (fun r_7 => (if r_7 = 0 then f_Directive_faultOfFlags_45 d_flags  else some ((7 : Int32)))) else some ((7 : Int32)))) else f_Directive_faultOfFlags_45 d_flags ) else some ((6 : Int32))))
abbrev r_Directive_faultOfFlags : Room := { frames := 3, cells := 0, slots := 0, locals := 60 }
set_option maxHeartbeats 4000000 in
set_option maxRecDepth 100000 in
theorem b_Directive_faultOfFlags_62 {h_d : Nat} (Zo : mm_Zx Z ad adK adV) (C0 : mm_cx (dC, dI) vwC (tyl cC cI cJ cQ) Z p s m args meth c b_Directive_faultOfFlags 1 (some .int) "DirectivePrinter$Directive" w_Directive_faultOfFlags A) (d_index : Int32) (d_flags : Int32) (d_flagTwice : Int32) (d_width : Int32) (d_precision : Int32) (d_conversion : Int32) (d_next : Int32) (out : Int32) : f_Directive_faultOfFlags_62 d_flags  = some out → ∀ (H : Heap) (locs : List Loc), mm_w (dC, dI) vwC A s [(h_d, .inr (2, [.int d_index, .int d_flags, .int d_flagTwice, .int d_width, .int d_precision, .int d_conversion, .int d_next]))] H locs → ∀ (ls : Array Slot), lv_has ls 1 [(0, .ref h_d)] → W p l e r_Directive_faultOfFlags s m args below meth c H locs 0 0 (MQ below (mm_qi (dC, dI) vwC (tyl cC cI cJ cQ) A [(h_d, .inr (2, [.int d_index, .int d_flags, .int d_flagTwice, .int d_width, .int d_precision, .int d_conversion, .int d_next]))] out) args s 0 0 A) (F0 m 62 ls []) := by
  obtain ⟨hx, hb, hr, hml, hown, hts, hlocks, hK, hZ, hA⟩ := id C0
  intro  hf H locs hw ls hl
  unfold f_Directive_faultOfFlags_62 at hf
  refine lv_aload_n hx hb d_Directive_faultOfFlags_62 rfl (lv_at hl 0 rfl) ?_
  refine lv_iconst (v := (4 : Int32)) hx hb d_Directive_faultOfFlags_63 (by decide) ?_
  obtain ⟨r_3, hu, hf⟩ := mm_b1_ok hf
  refine mm_ci (wr := []) (va_runV (As := [.int (4 : Int32)]) (rest := []) ⟨hx, hb, hml, hown, hts⟩ (c_Directive_has l Zo dC dI cC cI cJ cQ d_index d_flags d_flagTwice d_width d_precision d_conversion d_next (4 : Int32) h_d H.size r_3 hu) (cwV 1 hts (mm_gV q_389 q_390 q_391 q_60 q_392) rfl rfl rfl (by decide +kernel) ⟨Nat.le_of_ble_eq_true rfl, Nat.le_of_ble_eq_true rfl⟩) (mm_pv Zo.1 hK hw hZ hA [0] (by decide) rfl rfl (ci := 2) (q0 := 0) rfl rfl) rfl rfl hl.1 rfl (lv_room (Nat.le_of_ble_eq_true rfl)) d_Directive_faultOfFlags_64 ⟨Nat.le_refl _, Nat.le_refl _⟩) hw hA [0] [] rfl rfl (by decide) (by decide) (fun H locs hw => ?_)
  have hw : mm_w (dC, dI) vwC A s [(h_d, .inr (2, [.int d_index, .int d_flags, .int d_flagTwice, .int d_width, .int d_precision, .int d_conversion, .int d_next]))] H locs := hw
  refine lv_if_eq (tgt := 83) hx hb d_Directive_faultOfFlags_67 (by decide) (fun hc => ?_) (fun hc => ?_)
  · replace hf := mm_ip hc hf
    refine lv_iconst (v := (0 : Int32)) hx hb d_Directive_faultOfFlags_83 (by decide) ?_
    obtain rfl := Option.some.inj hf
    exact mm_iret hx hb hr hlocks hK (mm_wsub hw [0] (by decide) rfl rfl) rfl d_Directive_faultOfFlags_84
  · replace hf := mm_in hc hf
    refine lv_aload_n hx hb d_Directive_faultOfFlags_70 rfl (lv_at hl 0 rfl) ?_
    refine lv_sipush (v := (128 : Int32)) hx hb d_Directive_faultOfFlags_71 (by decide) ?_
    obtain ⟨r_4, hu, hf⟩ := mm_b1_ok hf
    refine mm_ci (wr := []) (va_runV (As := [.int (128 : Int32)]) (rest := []) ⟨hx, hb, hml, hown, hts⟩ (c_Directive_has l Zo dC dI cC cI cJ cQ d_index d_flags d_flagTwice d_width d_precision d_conversion d_next (128 : Int32) h_d H.size r_4 hu) (cwV 1 hts (mm_gV q_389 q_390 q_391 q_60 q_392) rfl rfl rfl (by decide +kernel) ⟨Nat.le_of_ble_eq_true rfl, Nat.le_of_ble_eq_true rfl⟩) (mm_pv Zo.1 hK hw hZ hA [0] (by decide) rfl rfl (ci := 2) (q0 := 0) rfl rfl) rfl rfl hl.1 rfl (lv_room (Nat.le_of_ble_eq_true rfl)) d_Directive_faultOfFlags_74 ⟨Nat.le_refl _, Nat.le_refl _⟩) hw hA [0] [] rfl rfl (by decide) (by decide) (fun H locs hw => ?_)
    have hw : mm_w (dC, dI) vwC A s [(h_d, .inr (2, [.int d_index, .int d_flags, .int d_flagTwice, .int d_width, .int d_precision, .int d_conversion, .int d_next]))] H locs := hw
    refine lv_if_eq (tgt := 83) hx hb d_Directive_faultOfFlags_77 (by decide) (fun hc => ?_) (fun hc => ?_)
    · replace hf := mm_ip hc hf
      refine lv_iconst (v := (0 : Int32)) hx hb d_Directive_faultOfFlags_83 (by decide) ?_
      obtain rfl := Option.some.inj hf
      exact mm_iret hx hb hr hlocks hK (mm_wsub hw [0] (by decide) rfl rfl) rfl d_Directive_faultOfFlags_84
    · replace hf := mm_in hc hf
      refine lv_bipush (v := (8 : Int32)) hx hb d_Directive_faultOfFlags_80 (by decide) ?_
      obtain rfl := Option.some.inj hf
      exact mm_iret hx hb hr hlocks hK (mm_wsub hw [0] (by decide) rfl rfl) rfl d_Directive_faultOfFlags_82
set_option maxHeartbeats 4000000 in
set_option maxRecDepth 100000 in
theorem b_Directive_faultOfFlags_45 {h_d : Nat} (Zo : mm_Zx Z ad adK adV) (C0 : mm_cx (dC, dI) vwC (tyl cC cI cJ cQ) Z p s m args meth c b_Directive_faultOfFlags 1 (some .int) "DirectivePrinter$Directive" w_Directive_faultOfFlags A) (d_index : Int32) (d_flags : Int32) (d_flagTwice : Int32) (d_width : Int32) (d_precision : Int32) (d_conversion : Int32) (d_next : Int32) (out : Int32) : f_Directive_faultOfFlags_45 d_flags  = some out → ∀ (H : Heap) (locs : List Loc), mm_w (dC, dI) vwC A s [(h_d, .inr (2, [.int d_index, .int d_flags, .int d_flagTwice, .int d_width, .int d_precision, .int d_conversion, .int d_next]))] H locs → ∀ (ls : Array Slot), lv_has ls 1 [(0, .ref h_d)] → W p l e r_Directive_faultOfFlags s m args below meth c H locs 0 0 (MQ below (mm_qi (dC, dI) vwC (tyl cC cI cJ cQ) A [(h_d, .inr (2, [.int d_index, .int d_flags, .int d_flagTwice, .int d_width, .int d_precision, .int d_conversion, .int d_next]))] out) args s 0 0 A) (F0 m 45 ls []) := by
  obtain ⟨hx, hb, hr, hml, hown, hts, hlocks, hK, hZ, hA⟩ := id C0
  intro  hf H locs hw ls hl
  unfold f_Directive_faultOfFlags_45 at hf
  refine lv_aload_n hx hb d_Directive_faultOfFlags_45 rfl (lv_at hl 0 rfl) ?_
  refine lv_iconst (v := (1 : Int32)) hx hb d_Directive_faultOfFlags_46 (by decide) ?_
  obtain ⟨r_2, hu, hf⟩ := mm_b1_ok hf
  refine mm_ci (wr := []) (va_runV (As := [.int (1 : Int32)]) (rest := []) ⟨hx, hb, hml, hown, hts⟩ (c_Directive_has l Zo dC dI cC cI cJ cQ d_index d_flags d_flagTwice d_width d_precision d_conversion d_next (1 : Int32) h_d H.size r_2 hu) (cwV 1 hts (mm_gV q_389 q_390 q_391 q_60 q_392) rfl rfl rfl (by decide +kernel) ⟨Nat.le_of_ble_eq_true rfl, Nat.le_of_ble_eq_true rfl⟩) (mm_pv Zo.1 hK hw hZ hA [0] (by decide) rfl rfl (ci := 2) (q0 := 0) rfl rfl) rfl rfl hl.1 rfl (lv_room (Nat.le_of_ble_eq_true rfl)) d_Directive_faultOfFlags_47 ⟨Nat.le_refl _, Nat.le_refl _⟩) hw hA [0] [] rfl rfl (by decide) (by decide) (fun H locs hw => ?_)
  have hw : mm_w (dC, dI) vwC A s [(h_d, .inr (2, [.int d_index, .int d_flags, .int d_flagTwice, .int d_width, .int d_precision, .int d_conversion, .int d_next]))] H locs := hw
  refine lv_if_eq (tgt := 62) hx hb d_Directive_faultOfFlags_50 (by decide) (fun hc => ?_) (fun hc => ?_)
  · replace hf := mm_ip hc hf
    exact b_Directive_faultOfFlags_62 Zo C0 d_index d_flags d_flagTwice d_width d_precision d_conversion d_next  out  hf _ _ hw _ hl
  · replace hf := mm_in hc hf
    refine lv_aload_n hx hb d_Directive_faultOfFlags_53 rfl (lv_at hl 0 rfl) ?_
    refine lv_bipush (v := (8 : Int32)) hx hb d_Directive_faultOfFlags_54 (by decide) ?_
    obtain ⟨r_5, hu, hf⟩ := mm_b1_ok hf
    refine mm_ci (wr := []) (va_runV (As := [.int (8 : Int32)]) (rest := []) ⟨hx, hb, hml, hown, hts⟩ (c_Directive_has l Zo dC dI cC cI cJ cQ d_index d_flags d_flagTwice d_width d_precision d_conversion d_next (8 : Int32) h_d H.size r_5 hu) (cwV 1 hts (mm_gV q_389 q_390 q_391 q_60 q_392) rfl rfl rfl (by decide +kernel) ⟨Nat.le_of_ble_eq_true rfl, Nat.le_of_ble_eq_true rfl⟩) (mm_pv Zo.1 hK hw hZ hA [0] (by decide) rfl rfl (ci := 2) (q0 := 0) rfl rfl) rfl rfl hl.1 rfl (lv_room (Nat.le_of_ble_eq_true rfl)) d_Directive_faultOfFlags_56 ⟨Nat.le_refl _, Nat.le_refl _⟩) hw hA [0] [] rfl rfl (by decide) (by decide) (fun H locs hw => ?_)
    have hw : mm_w (dC, dI) vwC A s [(h_d, .inr (2, [.int d_index, .int d_flags, .int d_flagTwice, .int d_width, .int d_precision, .int d_conversion, .int d_next]))] H locs := hw
    refine lv_if_ne (tgt := 80) hx hb d_Directive_faultOfFlags_59 (by decide) (fun hc => ?_) (fun hc => ?_)
    · replace hf := mm_in hc hf
      refine lv_bipush (v := (8 : Int32)) hx hb d_Directive_faultOfFlags_80 (by decide) ?_
      obtain rfl := Option.some.inj hf
      exact mm_iret hx hb hr hlocks hK (mm_wsub hw [0] (by decide) rfl rfl) rfl d_Directive_faultOfFlags_82
    · replace hf := mm_ip hc hf
      exact b_Directive_faultOfFlags_62 Zo C0 d_index d_flags d_flagTwice d_width d_precision d_conversion d_next  out  hf _ _ hw _ hl
set_option maxHeartbeats 4000000 in
set_option maxRecDepth 100000 in
theorem c_Directive_faultOfFlags (l : Launch) {Z : (Nat → Prop) → State → Heap → Prop} {ad adK adV : Nat → Nat} (Zo : mm_Zx Z ad adK adV) (dC : Nat → ClassId) (dI : Nat → Nat → Nat) (cC cI cJ cQ : ClassId) (d_index : Int32) (d_flags : Int32) (d_flagTwice : Int32) (d_width : Int32) (d_precision : Int32) (d_conversion : Int32) (d_next : Int32) (h_d : Nat) (sz : Nat) (out : Int32) (hf : f_Directive_faultOfFlags d_flags d_width d_conversion = some out) : Met l y_Directive_faultOfFlags w_Directive_faultOfFlags r_Directive_faultOfFlags (mm_pre (dC, dI) vwC (tyl cC cI cJ cQ) Z [(h_d, .inr (2, [.int d_index, .int d_flags, .int d_flagTwice, .int d_width, .int d_precision, .int d_conversion, .int d_next]))] sz [.ref h_d]) (mm_qi (dC, dI) vwC (tyl cC cI cJ cQ) (va_A [(h_d, .inr (2, [.int d_index, .int d_flags, .int d_flagTwice, .int d_width, .int d_precision, .int d_conversion, .int d_next]))] sz) [(h_d, .inr (2, [.int d_index, .int d_flags, .int d_flagTwice, .int d_width, .int d_precision, .int d_conversion, .int d_next]))] out) 0 0 (va_A [(h_d, .inr (2, [.int d_index, .int d_flags, .int d_flagTwice, .int d_width, .int d_precision, .int d_conversion, .int d_next]))] sz) := by
  refine mm_of (own := "DirectivePrinter$Directive") (cc := b_Directive_faultOfFlags) (maxL := 1) (ret := (some .int)) (by decide) rfl rfl ?_
  intro p e s m below meth c hsz C0 hw hname
  generalize (va_A [(h_d, .inr (2, [.int d_index, .int d_flags, .int d_flagTwice, .int d_width, .int d_precision, .int d_conversion, .int d_next]))] sz) = A at C0 hw ⊢
  have hl := lv_entry ([.ref h_d]) (n := 1) (Nat.le_of_ble_eq_true rfl)
  rw [lg_entry_eq]
  generalize (lg_sl ([.ref h_d]) ++ List.replicate (1 - (lg_sl ([.ref h_d])).length) Slot.unset).toArray = ls at hl ⊢
  have hl : lv_has ls 1 [(0, .ref h_d)] := hl
  obtain ⟨hx, hb, hr, hml, hown, hts, hlocks, hK, hZ, hA⟩ := id C0
  generalize s.heap = H at hw ⊢
  unfold f_Directive_faultOfFlags at hf
  refine lv_aload_n hx hb d_Directive_faultOfFlags_0 rfl (lv_at hl 0 rfl) ?_
  refine va_get (D := (dC, dI)) (ci := 2) (v := .int d_flags) (C := "DirectivePrinter$Directive") (T := T_Directive) (N := 7) hx hb hts (mm_up i_Directive) hown hK hw.1 0 rfl rfl 1 (by decide) (hts _ (List.mem_cons_of_mem _ q_139)) (fun _ h9 => h9) rfl d_Directive_faultOfFlags_1 ?_
  refine lv_aload_n hx hb d_Directive_faultOfFlags_4 rfl (lv_at hl 0 rfl) ?_
  obtain ⟨r_1, hu, hf⟩ := mm_b1_ok hf
  refine mm_ci (wr := []) (va_runV (As := []) (rest := [.int d_flags]) ⟨hx, hb, hml, hown, hts⟩ (c_Directive_allowedFlags l Zo dC dI cC cI cJ cQ d_index d_flags d_flagTwice d_width d_precision d_conversion d_next h_d H.size r_1 hu) (cwV 0 hts (mm_gV q_407 q_409 q_7 q_60 q_410) rfl rfl rfl (by decide +kernel) ⟨Nat.le_of_ble_eq_true rfl, Nat.le_of_ble_eq_true rfl⟩) (mm_pv Zo.1 hK hw hZ hA [0] (by decide) rfl rfl (ci := 2) (q0 := 0) rfl rfl) rfl rfl hl.1 rfl (lv_room (Nat.le_of_ble_eq_true rfl)) d_Directive_faultOfFlags_5 ⟨Nat.le_refl _, Nat.le_refl _⟩) hw hA [0] [] rfl rfl (by decide) (by decide) (fun H locs hw => ?_)
  have hw : mm_w (dC, dI) vwC A s [(h_d, .inr (2, [.int d_index, .int d_flags, .int d_flagTwice, .int d_width, .int d_precision, .int d_conversion, .int d_next]))] H locs := hw
  refine lv_iconst (v := (-1 : Int32)) hx hb d_Directive_faultOfFlags_8 (by decide) ?_
  refine lv_ixor hx hb d_Directive_faultOfFlags_9 ?_
  refine lv_iand hx hb d_Directive_faultOfFlags_10 ?_
  refine lv_if_eq (tgt := 17) hx hb d_Directive_faultOfFlags_11 (by decide) (fun hc => ?_) (fun hc => ?_)
  · replace hf := mm_ip hc hf
    refine lv_aload_n hx hb d_Directive_faultOfFlags_17 rfl (lv_at hl 0 rfl) ?_
    refine va_get (D := (dC, dI)) (ci := 2) (v := .int d_width) (C := "DirectivePrinter$Directive") (T := T_Directive) (N := 7) hx hb hts (mm_up i_Directive) hown hK hw.1 0 rfl rfl 3 (by decide) (hts _ (List.mem_cons_of_mem _ q_141)) (fun _ h9 => h9) rfl d_Directive_faultOfFlags_18 ?_
    refine lv_iconst (v := (-1 : Int32)) hx hb d_Directive_faultOfFlags_21 (by decide) ?_
    refine lv_icmp_ne (tgt := 45) hx hb d_Directive_faultOfFlags_22 (by decide) (fun hc => ?_) (fun hc => ?_)
    · replace hf := mm_in hc hf
      exact b_Directive_faultOfFlags_45 Zo C0 d_index d_flags d_flagTwice d_width d_precision d_conversion d_next  out  hf _ _ hw _ hl
    · replace hf := mm_ip hc hf
      refine lv_aload_n hx hb d_Directive_faultOfFlags_25 rfl (lv_at hl 0 rfl) ?_
      refine lv_iconst (v := (1 : Int32)) hx hb d_Directive_faultOfFlags_26 (by decide) ?_
      obtain ⟨r_6, hu, hf⟩ := mm_b1_ok hf
      refine mm_ci (wr := []) (va_runV (As := [.int (1 : Int32)]) (rest := []) ⟨hx, hb, hml, hown, hts⟩ (c_Directive_has l Zo dC dI cC cI cJ cQ d_index d_flags d_flagTwice d_width d_precision d_conversion d_next (1 : Int32) h_d H.size r_6 hu) (cwV 1 hts (mm_gV q_389 q_390 q_391 q_60 q_392) rfl rfl rfl (by decide +kernel) ⟨Nat.le_of_ble_eq_true rfl, Nat.le_of_ble_eq_true rfl⟩) (mm_pv Zo.1 hK hw hZ hA [0] (by decide) rfl rfl (ci := 2) (q0 := 0) rfl rfl) rfl rfl hl.1 rfl (lv_room (Nat.le_of_ble_eq_true rfl)) d_Directive_faultOfFlags_27 ⟨Nat.le_refl _, Nat.le_refl _⟩) hw hA [0] [] rfl rfl (by decide) (by decide) (fun H locs hw => ?_)
      have hw : mm_w (dC, dI) vwC A s [(h_d, .inr (2, [.int d_index, .int d_flags, .int d_flagTwice, .int d_width, .int d_precision, .int d_conversion, .int d_next]))] H locs := hw
      refine lv_if_ne (tgt := 42) hx hb d_Directive_faultOfFlags_30 (by decide) (fun hc => ?_) (fun hc => ?_)
      · replace hf := mm_in hc hf
        refine lv_bipush (v := (7 : Int32)) hx hb d_Directive_faultOfFlags_42 (by decide) ?_
        obtain rfl := Option.some.inj hf
        exact mm_iret hx hb hr hlocks hK (mm_wsub hw [0] (by decide) rfl rfl) rfl d_Directive_faultOfFlags_44
      · replace hf := mm_ip hc hf
        refine lv_aload_n hx hb d_Directive_faultOfFlags_33 rfl (lv_at hl 0 rfl) ?_
        refine lv_bipush (v := (8 : Int32)) hx hb d_Directive_faultOfFlags_34 (by decide) ?_
        obtain ⟨r_7, hu, hf⟩ := mm_b1_ok hf
        refine mm_ci (wr := []) (va_runV (As := [.int (8 : Int32)]) (rest := []) ⟨hx, hb, hml, hown, hts⟩ (c_Directive_has l Zo dC dI cC cI cJ cQ d_index d_flags d_flagTwice d_width d_precision d_conversion d_next (8 : Int32) h_d H.size r_7 hu) (cwV 1 hts (mm_gV q_389 q_390 q_391 q_60 q_392) rfl rfl rfl (by decide +kernel) ⟨Nat.le_of_ble_eq_true rfl, Nat.le_of_ble_eq_true rfl⟩) (mm_pv Zo.1 hK hw hZ hA [0] (by decide) rfl rfl (ci := 2) (q0 := 0) rfl rfl) rfl rfl hl.1 rfl (lv_room (Nat.le_of_ble_eq_true rfl)) d_Directive_faultOfFlags_36 ⟨Nat.le_refl _, Nat.le_refl _⟩) hw hA [0] [] rfl rfl (by decide) (by decide) (fun H locs hw => ?_)
        have hw : mm_w (dC, dI) vwC A s [(h_d, .inr (2, [.int d_index, .int d_flags, .int d_flagTwice, .int d_width, .int d_precision, .int d_conversion, .int d_next]))] H locs := hw
        refine lv_if_eq (tgt := 45) hx hb d_Directive_faultOfFlags_39 (by decide) (fun hc => ?_) (fun hc => ?_)
        · replace hf := mm_ip hc hf
          exact b_Directive_faultOfFlags_45 Zo C0 d_index d_flags d_flagTwice d_width d_precision d_conversion d_next  out  hf _ _ hw _ hl
        · replace hf := mm_in hc hf
          refine lv_bipush (v := (7 : Int32)) hx hb d_Directive_faultOfFlags_42 (by decide) ?_
          obtain rfl := Option.some.inj hf
          exact mm_iret hx hb hr hlocks hK (mm_wsub hw [0] (by decide) rfl rfl) rfl d_Directive_faultOfFlags_44
  · replace hf := mm_in hc hf
    refine lv_bipush (v := (6 : Int32)) hx hb d_Directive_faultOfFlags_14 (by decide) ?_
    obtain rfl := Option.some.inj hf
    exact mm_iret hx hb hr hlocks hK (mm_wsub hw [0] (by decide) rfl rfl) rfl d_Directive_faultOfFlags_16
end
