section
variable {p : Program} {l : Launch} {e : Env} {s : State} {m : MethodId} {args : Array Value} {below : List Frame} {meth : Method} {c : Code} {dC : Nat → ClassId} {dI : Nat → Nat → Nat} {cC cI cJ cQ : ClassId} {A : Nat → Prop} {Z : (Nat → Prop) → State → Heap → Prop} {ad adK adV : Nat → Nat}
abbrev b_Figures_forget : ByteArray := prog_5_method_4_code
abbrev y_Figures_forget : MethodName := ⟨"DirectivePrinter$Figures", "forget", "(I)V"⟩
def w_Figures_forget : List Cond := .code y_Figures_forget b_Figures_forget 3 none :: lw_g
theorem d_Figures_forget_0 : decode b_Figures_forget 0 = .ok (.iconst 0, 1) := by decide +kernel
theorem d_Figures_forget_1 : decode b_Figures_forget 1 = .ok (.istore_n 2, 1) := by decide +kernel
theorem d_Figures_forget_2 : decode b_Figures_forget 2 = .ok (.iload_n 2, 1) := by decide +kernel
theorem d_Figures_forget_3 : decode b_Figures_forget 3 = .ok (.bipush 24, 2) := by decide +kernel
theorem d_Figures_forget_5 : decode b_Figures_forget 5 = .ok (.if_icmp .ge 16, 3) := by decide +kernel
theorem d_Figures_forget_8 : decode b_Figures_forget 8 = .ok (.aload_n 0, 1) := by decide +kernel
theorem d_Figures_forget_9 : decode b_Figures_forget 9 = .ok (.getfield 9, 3) := by decide +kernel
theorem d_Figures_forget_12 : decode b_Figures_forget 12 = .ok (.iload_n 2, 1) := by decide +kernel
theorem d_Figures_forget_13 : decode b_Figures_forget 13 = .ok (.iconst 0, 1) := by decide +kernel
theorem d_Figures_forget_14 : decode b_Figures_forget 14 = .ok (.iastore, 1) := by decide +kernel
theorem d_Figures_forget_15 : decode b_Figures_forget 15 = .ok (.iinc 2 1, 3) := by decide +kernel
theorem d_Figures_forget_18 : decode b_Figures_forget 18 = .ok (.goto (-16), 3) := by decide +kernel
theorem d_Figures_forget_21 : decode b_Figures_forget 21 = .ok (.aload_n 0, 1) := by decide +kernel
theorem d_Figures_forget_22 : decode b_Figures_forget 22 = .ok (.iconst 0, 1) := by decide +kernel
theorem d_Figures_forget_23 : decode b_Figures_forget 23 = .ok (.putfield 13, 3) := by decide +kernel
theorem d_Figures_forget_26 : decode b_Figures_forget 26 = .ok (.aload_n 0, 1) := by decide +kernel
theorem d_Figures_forget_27 : decode b_Figures_forget 27 = .ok (.iload_n 1, 1) := by decide +kernel
theorem d_Figures_forget_28 : decode b_Figures_forget 28 = .ok (.putfield 17, 3) := by decide +kernel
theorem d_Figures_forget_31 : decode b_Figures_forget 31 = .ok (.return_, 1) := by decide +kernel
abbrev b_Figures_takeDecimal : ByteArray := prog_5_method_2_code
abbrev y_Figures_takeDecimal : MethodName := ⟨"DirectivePrinter$Figures", "takeDecimal", "(JI)V"⟩
def w_Figures_takeDecimal : List Cond := .code y_Figures_takeDecimal b_Figures_takeDecimal 7 none :: lw_g
theorem d_Figures_takeDecimal_0 : decode b_Figures_takeDecimal 0 = .ok (.aload_n 0, 1) := by decide +kernel
theorem d_Figures_takeDecimal_1 : decode b_Figures_takeDecimal 1 = .ok (.iload_n 3, 1) := by decide +kernel
theorem d_Figures_takeDecimal_2 : decode b_Figures_takeDecimal 2 = .ok (.invokevirtual 20, 3) := by decide +kernel
theorem d_Figures_takeDecimal_5 : decode b_Figures_takeDecimal 5 = .ok (.lload_n 1, 1) := by decide +kernel
theorem d_Figures_takeDecimal_6 : decode b_Figures_takeDecimal 6 = .ok (.lconst 0, 1) := by decide +kernel
theorem d_Figures_takeDecimal_7 : decode b_Figures_takeDecimal 7 = .ok (.lcmp, 1) := by decide +kernel
theorem d_Figures_takeDecimal_8 : decode b_Figures_takeDecimal 8 = .ok (.ifCond .ge 7, 3) := by decide +kernel
theorem d_Figures_takeDecimal_11 : decode b_Figures_takeDecimal 11 = .ok (.lload_n 1, 1) := by decide +kernel
theorem d_Figures_takeDecimal_12 : decode b_Figures_takeDecimal 12 = .ok (.goto 5, 3) := by decide +kernel
theorem d_Figures_takeDecimal_15 : decode b_Figures_takeDecimal 15 = .ok (.lload_n 1, 1) := by decide +kernel
theorem d_Figures_takeDecimal_16 : decode b_Figures_takeDecimal 16 = .ok (.lneg, 1) := by decide +kernel
theorem d_Figures_takeDecimal_17 : decode b_Figures_takeDecimal 17 = .ok (.lstore 4, 2) := by decide +kernel
theorem d_Figures_takeDecimal_19 : decode b_Figures_takeDecimal 19 = .ok (.iconst 0, 1) := by decide +kernel
theorem d_Figures_takeDecimal_20 : decode b_Figures_takeDecimal 20 = .ok (.istore 6, 2) := by decide +kernel
theorem d_Figures_takeDecimal_22 : decode b_Figures_takeDecimal 22 = .ok (.iload 6, 2) := by decide +kernel
theorem d_Figures_takeDecimal_24 : decode b_Figures_takeDecimal 24 = .ok (.bipush 24, 2) := by decide +kernel
theorem d_Figures_takeDecimal_26 : decode b_Figures_takeDecimal 26 = .ok (.if_icmp .ge 49, 3) := by decide +kernel
theorem d_Figures_takeDecimal_29 : decode b_Figures_takeDecimal 29 = .ok (.lload 4, 2) := by decide +kernel
theorem d_Figures_takeDecimal_31 : decode b_Figures_takeDecimal 31 = .ok (.lconst 0, 1) := by decide +kernel
theorem d_Figures_takeDecimal_32 : decode b_Figures_takeDecimal 32 = .ok (.lcmp, 1) := by decide +kernel
theorem d_Figures_takeDecimal_33 : decode b_Figures_takeDecimal 33 = .ok (.ifCond .eq 42, 3) := by decide +kernel
theorem d_Figures_takeDecimal_36 : decode b_Figures_takeDecimal 36 = .ok (.aload_n 0, 1) := by decide +kernel
theorem d_Figures_takeDecimal_37 : decode b_Figures_takeDecimal 37 = .ok (.getfield 9, 3) := by decide +kernel
theorem d_Figures_takeDecimal_40 : decode b_Figures_takeDecimal 40 = .ok (.iload 6, 2) := by decide +kernel
theorem d_Figures_takeDecimal_42 : decode b_Figures_takeDecimal 42 = .ok (.lload 4, 2) := by decide +kernel
theorem d_Figures_takeDecimal_44 : decode b_Figures_takeDecimal 44 = .ok (.ldc2_w 24, 3) := by decide +kernel
theorem d_Figures_takeDecimal_47 : decode b_Figures_takeDecimal 47 = .ok (.lrem, 1) := by decide +kernel
theorem d_Figures_takeDecimal_48 : decode b_Figures_takeDecimal 48 = .ok (.lneg, 1) := by decide +kernel
theorem d_Figures_takeDecimal_49 : decode b_Figures_takeDecimal 49 = .ok (.l2i, 1) := by decide +kernel
theorem d_Figures_takeDecimal_50 : decode b_Figures_takeDecimal 50 = .ok (.iastore, 1) := by decide +kernel
theorem d_Figures_takeDecimal_51 : decode b_Figures_takeDecimal 51 = .ok (.lload 4, 2) := by decide +kernel
theorem d_Figures_takeDecimal_53 : decode b_Figures_takeDecimal 53 = .ok (.ldc2_w 24, 3) := by decide +kernel
theorem d_Figures_takeDecimal_56 : decode b_Figures_takeDecimal 56 = .ok (.ldiv, 1) := by decide +kernel
theorem d_Figures_takeDecimal_57 : decode b_Figures_takeDecimal 57 = .ok (.lstore 4, 2) := by decide +kernel
theorem d_Figures_takeDecimal_59 : decode b_Figures_takeDecimal 59 = .ok (.aload_n 0, 1) := by decide +kernel
theorem d_Figures_takeDecimal_60 : decode b_Figures_takeDecimal 60 = .ok (.dup, 1) := by decide +kernel
theorem d_Figures_takeDecimal_61 : decode b_Figures_takeDecimal 61 = .ok (.getfield 13, 3) := by decide +kernel
theorem d_Figures_takeDecimal_64 : decode b_Figures_takeDecimal 64 = .ok (.iconst 1, 1) := by decide +kernel
theorem d_Figures_takeDecimal_65 : decode b_Figures_takeDecimal 65 = .ok (.iadd, 1) := by decide +kernel
theorem d_Figures_takeDecimal_66 : decode b_Figures_takeDecimal 66 = .ok (.putfield 13, 3) := by decide +kernel
theorem d_Figures_takeDecimal_69 : decode b_Figures_takeDecimal 69 = .ok (.iinc 6 1, 3) := by decide +kernel
theorem d_Figures_takeDecimal_72 : decode b_Figures_takeDecimal 72 = .ok (.goto (-50), 3) := by decide +kernel
theorem d_Figures_takeDecimal_75 : decode b_Figures_takeDecimal 75 = .ok (.return_, 1) := by decide +kernel
abbrev b_Figures_takeBits : ByteArray := prog_5_method_3_code
abbrev y_Figures_takeBits : MethodName := ⟨"DirectivePrinter$Figures", "takeBits", "(JII)V"⟩
def w_Figures_takeBits : List Cond := .code y_Figures_takeBits b_Figures_takeBits 10 none :: lw_g
theorem d_Figures_takeBits_0 : decode b_Figures_takeBits 0 = .ok (.aload_n 0, 1) := by decide +kernel
theorem d_Figures_takeBits_1 : decode b_Figures_takeBits 1 = .ok (.iconst 0, 1) := by decide +kernel
theorem d_Figures_takeBits_2 : decode b_Figures_takeBits 2 = .ok (.invokevirtual 20, 3) := by decide +kernel
theorem d_Figures_takeBits_5 : decode b_Figures_takeBits 5 = .ok (.iload_n 3, 1) := by decide +kernel
theorem d_Figures_takeBits_6 : decode b_Figures_takeBits 6 = .ok (.bipush 64, 2) := by decide +kernel
theorem d_Figures_takeBits_8 : decode b_Figures_takeBits 8 = .ok (.if_icmp .ge 13, 3) := by decide +kernel
theorem d_Figures_takeBits_11 : decode b_Figures_takeBits 11 = .ok (.lload_n 1, 1) := by decide +kernel
theorem d_Figures_takeBits_12 : decode b_Figures_takeBits 12 = .ok (.lconst 1, 1) := by decide +kernel
theorem d_Figures_takeBits_13 : decode b_Figures_takeBits 13 = .ok (.iload_n 3, 1) := by decide +kernel
theorem d_Figures_takeBits_14 : decode b_Figures_takeBits 14 = .ok (.lshl, 1) := by decide +kernel
theorem d_Figures_takeBits_15 : decode b_Figures_takeBits 15 = .ok (.lconst 1, 1) := by decide +kernel
theorem d_Figures_takeBits_16 : decode b_Figures_takeBits 16 = .ok (.lsub, 1) := by decide +kernel
theorem d_Figures_takeBits_17 : decode b_Figures_takeBits 17 = .ok (.land, 1) := by decide +kernel
theorem d_Figures_takeBits_18 : decode b_Figures_takeBits 18 = .ok (.goto 4, 3) := by decide +kernel
theorem d_Figures_takeBits_21 : decode b_Figures_takeBits 21 = .ok (.lload_n 1, 1) := by decide +kernel
theorem d_Figures_takeBits_22 : decode b_Figures_takeBits 22 = .ok (.lstore 5, 2) := by decide +kernel
theorem d_Figures_takeBits_24 : decode b_Figures_takeBits 24 = .ok (.lconst 1, 1) := by decide +kernel
theorem d_Figures_takeBits_25 : decode b_Figures_takeBits 25 = .ok (.iload 4, 2) := by decide +kernel
theorem d_Figures_takeBits_27 : decode b_Figures_takeBits 27 = .ok (.lshl, 1) := by decide +kernel
theorem d_Figures_takeBits_28 : decode b_Figures_takeBits 28 = .ok (.lconst 1, 1) := by decide +kernel
theorem d_Figures_takeBits_29 : decode b_Figures_takeBits 29 = .ok (.lsub, 1) := by decide +kernel
theorem d_Figures_takeBits_30 : decode b_Figures_takeBits 30 = .ok (.lstore 7, 2) := by decide +kernel
theorem d_Figures_takeBits_32 : decode b_Figures_takeBits 32 = .ok (.iconst 0, 1) := by decide +kernel
theorem d_Figures_takeBits_33 : decode b_Figures_takeBits 33 = .ok (.istore 9, 2) := by decide +kernel
theorem d_Figures_takeBits_35 : decode b_Figures_takeBits 35 = .ok (.iload 9, 2) := by decide +kernel
theorem d_Figures_takeBits_37 : decode b_Figures_takeBits 37 = .ok (.bipush 24, 2) := by decide +kernel
theorem d_Figures_takeBits_39 : decode b_Figures_takeBits 39 = .ok (.if_icmp .ge 46, 3) := by decide +kernel
theorem d_Figures_takeBits_42 : decode b_Figures_takeBits 42 = .ok (.lload 5, 2) := by decide +kernel
theorem d_Figures_takeBits_44 : decode b_Figures_takeBits 44 = .ok (.lconst 0, 1) := by decide +kernel
theorem d_Figures_takeBits_45 : decode b_Figures_takeBits 45 = .ok (.lcmp, 1) := by decide +kernel
theorem d_Figures_takeBits_46 : decode b_Figures_takeBits 46 = .ok (.ifCond .eq 39, 3) := by decide +kernel
theorem d_Figures_takeBits_49 : decode b_Figures_takeBits 49 = .ok (.aload_n 0, 1) := by decide +kernel
theorem d_Figures_takeBits_50 : decode b_Figures_takeBits 50 = .ok (.getfield 9, 3) := by decide +kernel
theorem d_Figures_takeBits_53 : decode b_Figures_takeBits 53 = .ok (.iload 9, 2) := by decide +kernel
theorem d_Figures_takeBits_55 : decode b_Figures_takeBits 55 = .ok (.lload 5, 2) := by decide +kernel
theorem d_Figures_takeBits_57 : decode b_Figures_takeBits 57 = .ok (.lload 7, 2) := by decide +kernel
theorem d_Figures_takeBits_59 : decode b_Figures_takeBits 59 = .ok (.land, 1) := by decide +kernel
theorem d_Figures_takeBits_60 : decode b_Figures_takeBits 60 = .ok (.l2i, 1) := by decide +kernel
theorem d_Figures_takeBits_61 : decode b_Figures_takeBits 61 = .ok (.iastore, 1) := by decide +kernel
theorem d_Figures_takeBits_62 : decode b_Figures_takeBits 62 = .ok (.lload 5, 2) := by decide +kernel
theorem d_Figures_takeBits_64 : decode b_Figures_takeBits 64 = .ok (.iload 4, 2) := by decide +kernel
theorem d_Figures_takeBits_66 : decode b_Figures_takeBits 66 = .ok (.lushr, 1) := by decide +kernel
theorem d_Figures_takeBits_67 : decode b_Figures_takeBits 67 = .ok (.lstore 5, 2) := by decide +kernel
theorem d_Figures_takeBits_69 : decode b_Figures_takeBits 69 = .ok (.aload_n 0, 1) := by decide +kernel
theorem d_Figures_takeBits_70 : decode b_Figures_takeBits 70 = .ok (.dup, 1) := by decide +kernel
theorem d_Figures_takeBits_71 : decode b_Figures_takeBits 71 = .ok (.getfield 13, 3) := by decide +kernel
theorem d_Figures_takeBits_74 : decode b_Figures_takeBits 74 = .ok (.iconst 1, 1) := by decide +kernel
theorem d_Figures_takeBits_75 : decode b_Figures_takeBits 75 = .ok (.iadd, 1) := by decide +kernel
theorem d_Figures_takeBits_76 : decode b_Figures_takeBits 76 = .ok (.putfield 13, 3) := by decide +kernel
theorem d_Figures_takeBits_79 : decode b_Figures_takeBits 79 = .ok (.iinc 9 1, 3) := by decide +kernel
theorem d_Figures_takeBits_82 : decode b_Figures_takeBits 82 = .ok (.goto (-47), 3) := by decide +kernel
theorem d_Figures_takeBits_85 : decode b_Figures_takeBits 85 = .ok (.return_, 1) := by decide +kernel
abbrev b_Figures_isZero : ByteArray := prog_5_method_5_code
abbrev y_Figures_isZero : MethodName := ⟨"DirectivePrinter$Figures", "isZero", "()Z"⟩
def w_Figures_isZero : List Cond := .code y_Figures_isZero b_Figures_isZero 1 (some .boolean) :: lw_g
theorem d_Figures_isZero_0 : decode b_Figures_isZero 0 = .ok (.aload_n 0, 1) := by decide +kernel
theorem d_Figures_isZero_1 : decode b_Figures_isZero 1 = .ok (.getfield 13, 3) := by decide +kernel
theorem d_Figures_isZero_4 : decode b_Figures_isZero 4 = .ok (.ifCond .ne 7, 3) := by decide +kernel
theorem d_Figures_isZero_7 : decode b_Figures_isZero 7 = .ok (.iconst 1, 1) := by decide +kernel
theorem d_Figures_isZero_8 : decode b_Figures_isZero 8 = .ok (.goto 4, 3) := by decide +kernel
theorem d_Figures_isZero_11 : decode b_Figures_isZero 11 = .ok (.iconst 0, 1) := by decide +kernel
theorem d_Figures_isZero_12 : decode b_Figures_isZero 12 = .ok (.ireturn, 1) := by decide +kernel
abbrev b_Figures_top : ByteArray := prog_5_method_6_code
abbrev y_Figures_top : MethodName := ⟨"DirectivePrinter$Figures", "top", "()I"⟩
def w_Figures_top : List Cond := .code y_Figures_top b_Figures_top 1 (some .int) :: lw_g
theorem d_Figures_top_0 : decode b_Figures_top 0 = .ok (.aload_n 0, 1) := by decide +kernel
theorem d_Figures_top_1 : decode b_Figures_top 1 = .ok (.getfield 13, 3) := by decide +kernel
theorem d_Figures_top_4 : decode b_Figures_top 4 = .ok (.iconst 1, 1) := by decide +kernel
theorem d_Figures_top_5 : decode b_Figures_top 5 = .ok (.isub, 1) := by decide +kernel
theorem d_Figures_top_6 : decode b_Figures_top 6 = .ok (.aload_n 0, 1) := by decide +kernel
theorem d_Figures_top_7 : decode b_Figures_top 7 = .ok (.getfield 17, 3) := by decide +kernel
theorem d_Figures_top_10 : decode b_Figures_top 10 = .ok (.isub, 1) := by decide +kernel
theorem d_Figures_top_11 : decode b_Figures_top 11 = .ok (.ireturn, 1) := by decide +kernel
abbrev b_Figures_exponent : ByteArray := prog_5_method_7_code
abbrev y_Figures_exponent : MethodName := ⟨"DirectivePrinter$Figures", "exponent", "()I"⟩
def w_Figures_exponent : List Cond := .code y_Figures_exponent b_Figures_exponent 1 (some .int) :: lw_g
theorem d_Figures_exponent_0 : decode b_Figures_exponent 0 = .ok (.aload_n 0, 1) := by decide +kernel
theorem d_Figures_exponent_1 : decode b_Figures_exponent 1 = .ok (.invokevirtual 26, 3) := by decide +kernel
theorem d_Figures_exponent_4 : decode b_Figures_exponent 4 = .ok (.ifCond .eq 7, 3) := by decide +kernel
theorem d_Figures_exponent_7 : decode b_Figures_exponent 7 = .ok (.iconst 0, 1) := by decide +kernel
theorem d_Figures_exponent_8 : decode b_Figures_exponent 8 = .ok (.goto 7, 3) := by decide +kernel
theorem d_Figures_exponent_11 : decode b_Figures_exponent 11 = .ok (.aload_n 0, 1) := by decide +kernel
theorem d_Figures_exponent_12 : decode b_Figures_exponent 12 = .ok (.invokevirtual 30, 3) := by decide +kernel
theorem d_Figures_exponent_15 : decode b_Figures_exponent 15 = .ok (.ireturn, 1) := by decide +kernel
abbrev b_Figures_lowestPower : ByteArray := prog_5_method_8_code
abbrev y_Figures_lowestPower : MethodName := ⟨"DirectivePrinter$Figures", "lowestPower", "()I"⟩
def w_Figures_lowestPower : List Cond := .code y_Figures_lowestPower b_Figures_lowestPower 1 (some .int) :: lw_g
theorem d_Figures_lowestPower_0 : decode b_Figures_lowestPower 0 = .ok (.aload_n 0, 1) := by decide +kernel
theorem d_Figures_lowestPower_1 : decode b_Figures_lowestPower 1 = .ok (.getfield 17, 3) := by decide +kernel
theorem d_Figures_lowestPower_4 : decode b_Figures_lowestPower 4 = .ok (.ineg, 1) := by decide +kernel
theorem d_Figures_lowestPower_5 : decode b_Figures_lowestPower 5 = .ok (.ireturn, 1) := by decide +kernel
abbrev b_Figures_countUpFrom : ByteArray := prog_5_method_11_code
abbrev y_Figures_countUpFrom : MethodName := ⟨"DirectivePrinter$Figures", "countUpFrom", "(I)V"⟩
def w_Figures_countUpFrom : List Cond := .code y_Figures_countUpFrom b_Figures_countUpFrom 3 none :: lw_g
theorem d_Figures_countUpFrom_0 : decode b_Figures_countUpFrom 0 = .ok (.iload_n 1, 1) := by decide +kernel
theorem d_Figures_countUpFrom_1 : decode b_Figures_countUpFrom 1 = .ok (.iconst 0, 1) := by decide +kernel
theorem d_Figures_countUpFrom_2 : decode b_Figures_countUpFrom 2 = .ok (.invokestatic 54, 3) := by decide +kernel
theorem d_Figures_countUpFrom_5 : decode b_Figures_countUpFrom 5 = .ok (.istore_n 2, 1) := by decide +kernel
theorem d_Figures_countUpFrom_6 : decode b_Figures_countUpFrom 6 = .ok (.iload_n 2, 1) := by decide +kernel
theorem d_Figures_countUpFrom_7 : decode b_Figures_countUpFrom 7 = .ok (.bipush 24, 2) := by decide +kernel
theorem d_Figures_countUpFrom_9 : decode b_Figures_countUpFrom 9 = .ok (.if_icmp .ge 52, 3) := by decide +kernel
theorem d_Figures_countUpFrom_12 : decode b_Figures_countUpFrom 12 = .ok (.aload_n 0, 1) := by decide +kernel
theorem d_Figures_countUpFrom_13 : decode b_Figures_countUpFrom 13 = .ok (.getfield 9, 3) := by decide +kernel
theorem d_Figures_countUpFrom_16 : decode b_Figures_countUpFrom 16 = .ok (.iload_n 2, 1) := by decide +kernel
theorem d_Figures_countUpFrom_17 : decode b_Figures_countUpFrom 17 = .ok (.iaload, 1) := by decide +kernel
theorem d_Figures_countUpFrom_18 : decode b_Figures_countUpFrom 18 = .ok (.bipush 9, 2) := by decide +kernel
theorem d_Figures_countUpFrom_20 : decode b_Figures_countUpFrom 20 = .ok (.if_icmp .ge 28, 3) := by decide +kernel
theorem d_Figures_countUpFrom_23 : decode b_Figures_countUpFrom 23 = .ok (.aload_n 0, 1) := by decide +kernel
theorem d_Figures_countUpFrom_24 : decode b_Figures_countUpFrom 24 = .ok (.getfield 9, 3) := by decide +kernel
theorem d_Figures_countUpFrom_27 : decode b_Figures_countUpFrom 27 = .ok (.iload_n 2, 1) := by decide +kernel
theorem d_Figures_countUpFrom_28 : decode b_Figures_countUpFrom 28 = .ok (.dup2, 1) := by decide +kernel
theorem d_Figures_countUpFrom_29 : decode b_Figures_countUpFrom 29 = .ok (.iaload, 1) := by decide +kernel
theorem d_Figures_countUpFrom_30 : decode b_Figures_countUpFrom 30 = .ok (.iconst 1, 1) := by decide +kernel
theorem d_Figures_countUpFrom_31 : decode b_Figures_countUpFrom 31 = .ok (.iadd, 1) := by decide +kernel
theorem d_Figures_countUpFrom_32 : decode b_Figures_countUpFrom 32 = .ok (.iastore, 1) := by decide +kernel
theorem d_Figures_countUpFrom_33 : decode b_Figures_countUpFrom 33 = .ok (.aload_n 0, 1) := by decide +kernel
theorem d_Figures_countUpFrom_34 : decode b_Figures_countUpFrom 34 = .ok (.aload_n 0, 1) := by decide +kernel
theorem d_Figures_countUpFrom_35 : decode b_Figures_countUpFrom 35 = .ok (.getfield 13, 3) := by decide +kernel
theorem d_Figures_countUpFrom_38 : decode b_Figures_countUpFrom 38 = .ok (.iload_n 2, 1) := by decide +kernel
theorem d_Figures_countUpFrom_39 : decode b_Figures_countUpFrom 39 = .ok (.iconst 1, 1) := by decide +kernel
theorem d_Figures_countUpFrom_40 : decode b_Figures_countUpFrom 40 = .ok (.iadd, 1) := by decide +kernel
theorem d_Figures_countUpFrom_41 : decode b_Figures_countUpFrom 41 = .ok (.invokestatic 54, 3) := by decide +kernel
theorem d_Figures_countUpFrom_44 : decode b_Figures_countUpFrom 44 = .ok (.putfield 13, 3) := by decide +kernel
theorem d_Figures_countUpFrom_47 : decode b_Figures_countUpFrom 47 = .ok (.return_, 1) := by decide +kernel
theorem d_Figures_countUpFrom_48 : decode b_Figures_countUpFrom 48 = .ok (.aload_n 0, 1) := by decide +kernel
theorem d_Figures_countUpFrom_49 : decode b_Figures_countUpFrom 49 = .ok (.getfield 9, 3) := by decide +kernel
theorem d_Figures_countUpFrom_52 : decode b_Figures_countUpFrom 52 = .ok (.iload_n 2, 1) := by decide +kernel
theorem d_Figures_countUpFrom_53 : decode b_Figures_countUpFrom 53 = .ok (.iconst 0, 1) := by decide +kernel
theorem d_Figures_countUpFrom_54 : decode b_Figures_countUpFrom 54 = .ok (.iastore, 1) := by decide +kernel
theorem d_Figures_countUpFrom_55 : decode b_Figures_countUpFrom 55 = .ok (.iinc 2 1, 3) := by decide +kernel
theorem d_Figures_countUpFrom_58 : decode b_Figures_countUpFrom 58 = .ok (.goto (-52), 3) := by decide +kernel
theorem d_Figures_countUpFrom_61 : decode b_Figures_countUpFrom 61 = .ok (.return_, 1) := by decide +kernel
abbrev b_Figures_roundTo : ByteArray := prog_5_method_10_code
abbrev y_Figures_roundTo : MethodName := ⟨"DirectivePrinter$Figures", "roundTo", "(I)V"⟩
def w_Figures_roundTo : List Cond := .code y_Figures_roundTo b_Figures_roundTo 6 none :: lw_g
theorem d_Figures_roundTo_0 : decode b_Figures_roundTo 0 = .ok (.iload_n 1, 1) := by decide +kernel
theorem d_Figures_roundTo_1 : decode b_Figures_roundTo 1 = .ok (.aload_n 0, 1) := by decide +kernel
theorem d_Figures_roundTo_2 : decode b_Figures_roundTo 2 = .ok (.getfield 17, 3) := by decide +kernel
theorem d_Figures_roundTo_5 : decode b_Figures_roundTo 5 = .ok (.iadd, 1) := by decide +kernel
theorem d_Figures_roundTo_6 : decode b_Figures_roundTo 6 = .ok (.istore_n 2, 1) := by decide +kernel
theorem d_Figures_roundTo_7 : decode b_Figures_roundTo 7 = .ok (.iload_n 2, 1) := by decide +kernel
theorem d_Figures_roundTo_8 : decode b_Figures_roundTo 8 = .ok (.ifCond .gt 4, 3) := by decide +kernel
theorem d_Figures_roundTo_11 : decode b_Figures_roundTo 11 = .ok (.return_, 1) := by decide +kernel
theorem d_Figures_roundTo_12 : decode b_Figures_roundTo 12 = .ok (.iload_n 2, 1) := by decide +kernel
theorem d_Figures_roundTo_13 : decode b_Figures_roundTo 13 = .ok (.aload_n 0, 1) := by decide +kernel
theorem d_Figures_roundTo_14 : decode b_Figures_roundTo 14 = .ok (.getfield 13, 3) := by decide +kernel
theorem d_Figures_roundTo_17 : decode b_Figures_roundTo 17 = .ok (.if_icmp .gt 25, 3) := by decide +kernel
theorem d_Figures_roundTo_20 : decode b_Figures_roundTo 20 = .ok (.iload_n 2, 1) := by decide +kernel
theorem d_Figures_roundTo_21 : decode b_Figures_roundTo 21 = .ok (.bipush 24, 2) := by decide +kernel
theorem d_Figures_roundTo_23 : decode b_Figures_roundTo 23 = .ok (.if_icmp .gt 19, 3) := by decide +kernel
theorem d_Figures_roundTo_26 : decode b_Figures_roundTo 26 = .ok (.aload_n 0, 1) := by decide +kernel
theorem d_Figures_roundTo_27 : decode b_Figures_roundTo 27 = .ok (.getfield 9, 3) := by decide +kernel
theorem d_Figures_roundTo_30 : decode b_Figures_roundTo 30 = .ok (.iload_n 2, 1) := by decide +kernel
theorem d_Figures_roundTo_31 : decode b_Figures_roundTo 31 = .ok (.iconst 1, 1) := by decide +kernel
theorem d_Figures_roundTo_32 : decode b_Figures_roundTo 32 = .ok (.isub, 1) := by decide +kernel
theorem d_Figures_roundTo_33 : decode b_Figures_roundTo 33 = .ok (.iaload, 1) := by decide +kernel
theorem d_Figures_roundTo_34 : decode b_Figures_roundTo 34 = .ok (.iconst 5, 1) := by decide +kernel
theorem d_Figures_roundTo_35 : decode b_Figures_roundTo 35 = .ok (.if_icmp .lt 7, 3) := by decide +kernel
theorem d_Figures_roundTo_38 : decode b_Figures_roundTo 38 = .ok (.iconst 1, 1) := by decide +kernel
theorem d_Figures_roundTo_39 : decode b_Figures_roundTo 39 = .ok (.goto 4, 3) := by decide +kernel
theorem d_Figures_roundTo_42 : decode b_Figures_roundTo 42 = .ok (.iconst 0, 1) := by decide +kernel
theorem d_Figures_roundTo_43 : decode b_Figures_roundTo 43 = .ok (.istore_n 3, 1) := by decide +kernel
theorem d_Figures_roundTo_44 : decode b_Figures_roundTo 44 = .ok (.iload_n 2, 1) := by decide +kernel
theorem d_Figures_roundTo_45 : decode b_Figures_roundTo 45 = .ok (.bipush 24, 2) := by decide +kernel
theorem d_Figures_roundTo_47 : decode b_Figures_roundTo 47 = .ok (.invokestatic 45, 3) := by decide +kernel
theorem d_Figures_roundTo_50 : decode b_Figures_roundTo 50 = .ok (.istore 4, 2) := by decide +kernel
theorem d_Figures_roundTo_52 : decode b_Figures_roundTo 52 = .ok (.iconst 0, 1) := by decide +kernel
theorem d_Figures_roundTo_53 : decode b_Figures_roundTo 53 = .ok (.istore 5, 2) := by decide +kernel
theorem d_Figures_roundTo_55 : decode b_Figures_roundTo 55 = .ok (.iload 5, 2) := by decide +kernel
theorem d_Figures_roundTo_57 : decode b_Figures_roundTo 57 = .ok (.iload 4, 2) := by decide +kernel
theorem d_Figures_roundTo_59 : decode b_Figures_roundTo 59 = .ok (.if_icmp .ge 17, 3) := by decide +kernel
theorem d_Figures_roundTo_62 : decode b_Figures_roundTo 62 = .ok (.aload_n 0, 1) := by decide +kernel
theorem d_Figures_roundTo_63 : decode b_Figures_roundTo 63 = .ok (.getfield 9, 3) := by decide +kernel
theorem d_Figures_roundTo_66 : decode b_Figures_roundTo 66 = .ok (.iload 5, 2) := by decide +kernel
theorem d_Figures_roundTo_68 : decode b_Figures_roundTo 68 = .ok (.iconst 0, 1) := by decide +kernel
theorem d_Figures_roundTo_69 : decode b_Figures_roundTo 69 = .ok (.iastore, 1) := by decide +kernel
theorem d_Figures_roundTo_70 : decode b_Figures_roundTo 70 = .ok (.iinc 5 1, 3) := by decide +kernel
theorem d_Figures_roundTo_73 : decode b_Figures_roundTo 73 = .ok (.goto (-18), 3) := by decide +kernel
theorem d_Figures_roundTo_76 : decode b_Figures_roundTo 76 = .ok (.iload_n 3, 1) := by decide +kernel
theorem d_Figures_roundTo_77 : decode b_Figures_roundTo 77 = .ok (.ifCond .eq 11, 3) := by decide +kernel
theorem d_Figures_roundTo_80 : decode b_Figures_roundTo 80 = .ok (.aload_n 0, 1) := by decide +kernel
theorem d_Figures_roundTo_81 : decode b_Figures_roundTo 81 = .ok (.iload_n 2, 1) := by decide +kernel
theorem d_Figures_roundTo_82 : decode b_Figures_roundTo 82 = .ok (.invokevirtual 51, 3) := by decide +kernel
theorem d_Figures_roundTo_85 : decode b_Figures_roundTo 85 = .ok (.goto 16, 3) := by decide +kernel
theorem d_Figures_roundTo_88 : decode b_Figures_roundTo 88 = .ok (.iload_n 2, 1) := by decide +kernel
theorem d_Figures_roundTo_89 : decode b_Figures_roundTo 89 = .ok (.aload_n 0, 1) := by decide +kernel
theorem d_Figures_roundTo_90 : decode b_Figures_roundTo 90 = .ok (.getfield 13, 3) := by decide +kernel
theorem d_Figures_roundTo_93 : decode b_Figures_roundTo 93 = .ok (.if_icmp .lt 8, 3) := by decide +kernel
theorem d_Figures_roundTo_96 : decode b_Figures_roundTo 96 = .ok (.aload_n 0, 1) := by decide +kernel
theorem d_Figures_roundTo_97 : decode b_Figures_roundTo 97 = .ok (.iconst 0, 1) := by decide +kernel
theorem d_Figures_roundTo_98 : decode b_Figures_roundTo 98 = .ok (.putfield 13, 3) := by decide +kernel
theorem d_Figures_roundTo_101 : decode b_Figures_roundTo 101 = .ok (.return_, 1) := by decide +kernel
set_option maxRecDepth 100000 in
theorem q_177 : (.fieldLink "DirectivePrinter$Figures" 13 "DirectivePrinter$Figures" "count" "I" : Cond) ∈ lw_g := List.mem_filter.mpr ⟨List.mem_of_getElem? (i := 177) (by decide +kernel), by decide +kernel⟩
set_option maxRecDepth 100000 in
theorem q_178 : (.fieldLink "DirectivePrinter$Figures" 17 "DirectivePrinter$Figures" "scale" "I" : Cond) ∈ lw_g := List.mem_filter.mpr ⟨List.mem_of_getElem? (i := 178) (by decide +kernel), by decide +kernel⟩
set_option maxRecDepth 100000 in
theorem q_176 : (.fieldLink "DirectivePrinter$Figures" 9 "DirectivePrinter$Figures" "digits" "[I" : Cond) ∈ lw_g := List.mem_filter.mpr ⟨List.mem_of_getElem? (i := 176) (by decide +kernel), by decide +kernel⟩
set_option maxRecDepth 100000 in
theorem q_523 : (.methodLink "DirectivePrinter$Figures" 20 ⟨"DirectivePrinter$Figures", "forget", "(I)V"⟩ : Cond) ∈ lw_g := List.mem_filter.mpr ⟨List.mem_of_getElem? (i := 523) (by decide +kernel), by decide +kernel⟩
set_option maxRecDepth 100000 in
theorem q_525 : (.instanceMethod ⟨"DirectivePrinter$Figures", "forget", "(I)V"⟩ : Cond) ∈ lw_g := List.mem_filter.mpr ⟨List.mem_of_getElem? (i := 525) (by decide +kernel), by decide +kernel⟩
set_option maxRecDepth 100000 in
theorem q_14 : (.selects "DirectivePrinter$Figures" ⟨"DirectivePrinter$Figures", "forget", "(I)V"⟩ ⟨"DirectivePrinter$Figures", "forget", "(I)V"⟩ : Cond) ∈ lw_g := List.mem_filter.mpr ⟨List.mem_of_getElem? (i := 14) (by decide +kernel), by decide +kernel⟩
set_option maxRecDepth 100000 in
theorem q_62 : (.initialized "DirectivePrinter$Figures" : Cond) ∈ lw_g := List.mem_filter.mpr ⟨List.mem_of_getElem? (i := 62) (by decide +kernel), by decide +kernel⟩
set_option maxRecDepth 100000 in
theorem q_526 : (.code ⟨"DirectivePrinter$Figures", "forget", "(I)V"⟩ prog_5_method_4_code 3 (Option.none : Option FieldType) : Cond) ∈ lw_g := List.mem_filter.mpr ⟨List.mem_of_getElem? (i := 526) (rfl), by decide +kernel⟩
set_option maxRecDepth 100000 in
theorem q_527 : (.constantLong "DirectivePrinter$Figures" 24 (10 : Int64) : Cond) ∈ lw_g := List.mem_filter.mpr ⟨List.mem_of_getElem? (i := 527) (by decide +kernel), by decide +kernel⟩
set_option maxRecDepth 100000 in
theorem q_594 : (.methodLink "DirectivePrinter$Figures" 26 ⟨"DirectivePrinter$Figures", "isZero", "()Z"⟩ : Cond) ∈ lw_g := List.mem_filter.mpr ⟨List.mem_of_getElem? (i := 594) (by decide +kernel), by decide +kernel⟩
set_option maxRecDepth 100000 in
theorem q_595 : (.instanceMethod ⟨"DirectivePrinter$Figures", "isZero", "()Z"⟩ : Cond) ∈ lw_g := List.mem_filter.mpr ⟨List.mem_of_getElem? (i := 595) (by decide +kernel), by decide +kernel⟩
set_option maxRecDepth 100000 in
theorem q_596 : (.selects "DirectivePrinter$Figures" ⟨"DirectivePrinter$Figures", "isZero", "()Z"⟩ ⟨"DirectivePrinter$Figures", "isZero", "()Z"⟩ : Cond) ∈ lw_g := List.mem_filter.mpr ⟨List.mem_of_getElem? (i := 596) (by decide +kernel), by decide +kernel⟩
set_option maxRecDepth 100000 in
theorem q_597 : (.code ⟨"DirectivePrinter$Figures", "isZero", "()Z"⟩ prog_5_method_5_code 1 (Option.some FieldType.boolean) : Cond) ∈ lw_g := List.mem_filter.mpr ⟨List.mem_of_getElem? (i := 597) (rfl), by decide +kernel⟩
set_option maxRecDepth 100000 in
theorem q_598 : (.methodLink "DirectivePrinter$Figures" 30 ⟨"DirectivePrinter$Figures", "top", "()I"⟩ : Cond) ∈ lw_g := List.mem_filter.mpr ⟨List.mem_of_getElem? (i := 598) (by decide +kernel), by decide +kernel⟩
set_option maxRecDepth 100000 in
theorem q_533 : (.instanceMethod ⟨"DirectivePrinter$Figures", "top", "()I"⟩ : Cond) ∈ lw_g := List.mem_filter.mpr ⟨List.mem_of_getElem? (i := 533) (by decide +kernel), by decide +kernel⟩
set_option maxRecDepth 100000 in
theorem q_534 : (.selects "DirectivePrinter$Figures" ⟨"DirectivePrinter$Figures", "top", "()I"⟩ ⟨"DirectivePrinter$Figures", "top", "()I"⟩ : Cond) ∈ lw_g := List.mem_filter.mpr ⟨List.mem_of_getElem? (i := 534) (by decide +kernel), by decide +kernel⟩
set_option maxRecDepth 100000 in
theorem q_535 : (.code ⟨"DirectivePrinter$Figures", "top", "()I"⟩ prog_5_method_6_code 1 (Option.some FieldType.int) : Cond) ∈ lw_g := List.mem_filter.mpr ⟨List.mem_of_getElem? (i := 535) (rfl), by decide +kernel⟩
set_option maxRecDepth 100000 in
theorem q_589 : (.methodLink "DirectivePrinter$Figures" 54 ⟨"java/lang/Math", "max", "(II)I"⟩ : Cond) ∈ lw_g := List.mem_filter.mpr ⟨List.mem_of_getElem? (i := 589) (by decide +kernel), by decide +kernel⟩
set_option maxRecDepth 100000 in
theorem q_584 : (.methodLink "DirectivePrinter$Figures" 45 ⟨"java/lang/Math", "min", "(II)I"⟩ : Cond) ∈ lw_g := List.mem_filter.mpr ⟨List.mem_of_getElem? (i := 584) (by decide +kernel), by decide +kernel⟩
set_option maxRecDepth 100000 in
theorem q_585 : (.methodLink "DirectivePrinter$Figures" 51 ⟨"DirectivePrinter$Figures", "countUpFrom", "(I)V"⟩ : Cond) ∈ lw_g := List.mem_filter.mpr ⟨List.mem_of_getElem? (i := 585) (by decide +kernel), by decide +kernel⟩
set_option maxRecDepth 100000 in
theorem q_587 : (.instanceMethod ⟨"DirectivePrinter$Figures", "countUpFrom", "(I)V"⟩ : Cond) ∈ lw_g := List.mem_filter.mpr ⟨List.mem_of_getElem? (i := 587) (by decide +kernel), by decide +kernel⟩
set_option maxRecDepth 100000 in
theorem q_20 : (.selects "DirectivePrinter$Figures" ⟨"DirectivePrinter$Figures", "countUpFrom", "(I)V"⟩ ⟨"DirectivePrinter$Figures", "countUpFrom", "(I)V"⟩ : Cond) ∈ lw_g := List.mem_filter.mpr ⟨List.mem_of_getElem? (i := 20) (by decide +kernel), by decide +kernel⟩
set_option maxRecDepth 100000 in
theorem q_588 : (.code ⟨"DirectivePrinter$Figures", "countUpFrom", "(I)V"⟩ prog_5_method_11_code 3 (Option.none : Option FieldType) : Cond) ∈ lw_g := List.mem_filter.mpr ⟨List.mem_of_getElem? (i := 588) (rfl), by decide +kernel⟩
/-! DirectivePrinter$Figures.forget(I)V -/
def f_Figures_forget_2 (g_digits_n : Nat) (ns : Int32) : Nat → (Nat → Int32) → Int32 → Int32 → Int32 → Option ((Nat → Int32) × Int32 × Int32)
  | 0, _, _, _, _ => none
  | fu + 1, g_digits, g_count, g_scale, x2 => (if (24 : Int32) ≤ x2 then some (g_digits, (0 : Int32), ns) else (if x2 < 0 ∨ g_digits_n ≤ x2.toNatClampNeg then none else f_Figures_forget_2 g_digits_n ns fu (upd g_digits x2.toNatClampNeg (0 : Int32)) g_count g_scale (x2 + (1 : Int32))))
def f_Figures_forget (N : Nat) (g_digits_n : Nat) (g_digits : Nat → Int32) (g_count : Int32) (g_scale : Int32) (ns : Int32) : Option ((Nat → Int32) × Int32 × Int32) := f_Figures_forget_2 g_digits_n ns N g_digits g_count g_scale (0 : Int32)
abbrev r_Figures_forget : Room := { frames := 0, cells := 0, slots := 0, locals := 0 }
set_option maxHeartbeats 4000000 in
set_option maxRecDepth 100000 in
theorem b_Figures_forget_2 {h_g h_g_digits : Nat} (Zo : mm_Zx Z ad adK adV) (C0 : mm_cx (dC, dI) vwC (tyl cC cI cJ cQ) Z p s m args meth c b_Figures_forget 3 none "DirectivePrinter$Figures" w_Figures_forget A) (N : Nat) (g_digits_n : Nat) (ns : Int32) (out : (Nat → Int32) × Int32 × Int32) : ∀ (fuel : Nat) (g_digits : Nat → Int32) (g_count : Int32) (g_scale : Int32) (x2 : Int32), f_Figures_forget_2 g_digits_n ns fuel g_digits g_count g_scale x2 = some out → ∀ (H : Heap) (locs : List Loc), mm_w (dC, dI) vwC A s [(h_g, .inr (1, [.ref h_g_digits, .int g_count, .int g_scale])), (h_g_digits, .inl (cI, g_digits_n, .inl g_digits))] H locs → ∀ (ls : Array Slot), lv_has ls 3 [(0, .ref h_g), (1, .int ns), (2, .int x2)] → W p l e r_Figures_forget s m args below meth c H locs 0 0 (MQ below (mm_qv (dC, dI) vwC (tyl cC cI cJ cQ) A [(h_g, .inr (1, [.ref h_g_digits, .int out.2.1, .int out.2.2])), (h_g_digits, .inl (cI, g_digits_n, .inl out.1))]) args s 0 0 A) (F0 m 2 ls []) := by
  obtain ⟨hx, hb, hr, hml, hown, hts, hlocks, hK, hZ, hA⟩ := id C0
  intro fuel
  induction fuel with
  | zero =>
    intro g_digits g_count g_scale x2 hf
    cases (show (none : Option ((Nat → Int32) × Int32 × Int32)) = some out from hf)
  | succ fu ih =>
    intro g_digits g_count g_scale x2 hf H locs hw ls hl
    unfold f_Figures_forget_2 at hf
    refine lv_iload_n hx hb d_Figures_forget_2 rfl (lv_at hl 2 rfl) ?_
    refine lv_bipush (v := (24 : Int32)) hx hb d_Figures_forget_3 (by decide) ?_
    refine lv_icmp_ge (tgt := 21) hx hb d_Figures_forget_5 (by decide) (fun hc => ?_) (fun hc => ?_)
    · replace hf := mm_ip hc hf
      refine lv_aload_n hx hb d_Figures_forget_21 rfl (lv_at hl 0 rfl) ?_
      refine lv_iconst (v := (0 : Int32)) hx hb d_Figures_forget_22 (by decide) ?_
      refine va_put (D := (dC, dI)) (ci := 1) (v := .int (0 : Int32)) (ty := .int) (C := "DirectivePrinter$Figures") (T := T_Figures) (N := 3) hx hb hts (mm_up i_Figures) t_Figures t_Figures_ok n_Figures hown hK hw.1 hw.2.1 hw.2.2 0 rfl rfl 1 (by decide) (hts _ (List.mem_cons_of_mem _ q_177)) (fun _ h9 => h9) rfl (by decide +kernel) rfl rfl (Nat.le_of_ble_eq_true rfl) d_Figures_forget_23 (fun H locs hP hD hS => ?_)
      have hw : mm_w (dC, dI) vwC A s [(h_g, .inr (1, [.ref h_g_digits, .int (0 : Int32), .int g_scale])), (h_g_digits, .inl (cI, g_digits_n, .inl g_digits))] H locs := ⟨hP, hD, hS⟩
      refine lv_aload_n hx hb d_Figures_forget_26 rfl (lv_at hl 0 rfl) ?_
      refine lv_iload_n hx hb d_Figures_forget_27 rfl (lv_at hl 1 rfl) ?_
      refine va_put (D := (dC, dI)) (ci := 1) (v := .int ns) (ty := .int) (C := "DirectivePrinter$Figures") (T := T_Figures) (N := 3) hx hb hts (mm_up i_Figures) t_Figures t_Figures_ok n_Figures hown hK hw.1 hw.2.1 hw.2.2 0 rfl rfl 2 (by decide) (hts _ (List.mem_cons_of_mem _ q_178)) (fun _ h9 => h9) rfl (by decide +kernel) rfl rfl (Nat.le_of_ble_eq_true rfl) d_Figures_forget_28 (fun H locs hP hD hS => ?_)
      have hw : mm_w (dC, dI) vwC A s [(h_g, .inr (1, [.ref h_g_digits, .int (0 : Int32), .int ns])), (h_g_digits, .inl (cI, g_digits_n, .inl g_digits))] H locs := ⟨hP, hD, hS⟩
      obtain rfl := Option.some.inj hf
      exact mm_vret hx hb hr hlocks hK (mm_wsub hw [0, 1] (by decide) rfl rfl) d_Figures_forget_31
    · replace hf := mm_in hc hf
      refine lv_aload_n hx hb d_Figures_forget_8 rfl (lv_at hl 0 rfl) ?_
      refine va_get (D := (dC, dI)) (ci := 1) (v := .ref h_g_digits) (C := "DirectivePrinter$Figures") (T := T_Figures) (N := 3) hx hb hts (mm_up i_Figures) hown hK hw.1 0 rfl rfl 0 (by decide) (hts _ (List.mem_cons_of_mem _ q_176)) (fun _ h9 => h9) rfl d_Figures_forget_9 ?_
      refine lv_iload_n hx hb d_Figures_forget_12 rfl (lv_at hl 2 rfl) ?_
      refine lv_iconst (v := (0 : Int32)) hx hb d_Figures_forget_13 (by decide) ?_
      obtain ⟨hz, hf⟩ := mm_grd hf
      refine va_iast hx hb hK hw.1 hw.2.1 hw.2.2 1 1 rfl rfl hz d_Figures_forget_14 (fun H locs hP hD hS => ?_)
      have hw : mm_w (dC, dI) vwC A s [(h_g, .inr (1, [.ref h_g_digits, .int g_count, .int g_scale])), (h_g_digits, .inl (cI, g_digits_n, .inl (upd g_digits x2.toNatClampNeg (0 : Int32))))] H locs := ⟨hP, hD, hS⟩
      refine lv_iinc (v := x2 + (1 : Int32)) (lv' := [(2, .int (x2 + (1 : Int32))), (0, .ref h_g), (1, .int ns)]) hx hb d_Figures_forget_15 hl (k := 2) rfl rfl (by decide) rfl (fun ls hl => ?_)
      refine lv_goto (tgt := 2) hx hb d_Figures_forget_18 (by decide) ?_
      exact ih (upd g_digits x2.toNatClampNeg (0 : Int32)) g_count g_scale (x2 + (1 : Int32)) hf _ _ hw _ (lv_sub hl [1, 2, 0] rfl)
set_option maxHeartbeats 4000000 in
set_option maxRecDepth 100000 in
theorem c_Figures_forget (l : Launch) {Z : (Nat → Prop) → State → Heap → Prop} {ad adK adV : Nat → Nat} (Zo : mm_Zx Z ad adK adV) (dC : Nat → ClassId) (dI : Nat → Nat → Nat) (cC cI cJ cQ : ClassId) (N : Nat) (g_digits_n : Nat) (g_digits : Nat → Int32) (g_count : Int32) (g_scale : Int32) (ns : Int32) (h_g h_g_digits : Nat) (sz : Nat) (out : (Nat → Int32) × Int32 × Int32) (hf : f_Figures_forget N g_digits_n g_digits g_count g_scale ns = some out) : Met l y_Figures_forget w_Figures_forget r_Figures_forget (mm_pre (dC, dI) vwC (tyl cC cI cJ cQ) Z [(h_g, .inr (1, [.ref h_g_digits, .int g_count, .int g_scale])), (h_g_digits, .inl (cI, g_digits_n, .inl g_digits))] sz [.ref h_g, .int ns]) (mm_qv (dC, dI) vwC (tyl cC cI cJ cQ) (va_A [(h_g, .inr (1, [.ref h_g_digits, .int g_count, .int g_scale])), (h_g_digits, .inl (cI, g_digits_n, .inl g_digits))] sz) [(h_g, .inr (1, [.ref h_g_digits, .int out.2.1, .int out.2.2])), (h_g_digits, .inl (cI, g_digits_n, .inl out.1))]) 0 0 (va_A [(h_g, .inr (1, [.ref h_g_digits, .int g_count, .int g_scale])), (h_g_digits, .inl (cI, g_digits_n, .inl g_digits))] sz) := by
  refine mm_of (own := "DirectivePrinter$Figures") (cc := b_Figures_forget) (maxL := 3) (ret := none) (by decide) rfl rfl ?_
  intro p e s m below meth c hsz C0 hw hname
  generalize (va_A [(h_g, .inr (1, [.ref h_g_digits, .int g_count, .int g_scale])), (h_g_digits, .inl (cI, g_digits_n, .inl g_digits))] sz) = A at C0 hw ⊢
  have hl := lv_entry ([.ref h_g, .int ns]) (n := 3) (Nat.le_of_ble_eq_true rfl)
  rw [lg_entry_eq]
  generalize (lg_sl ([.ref h_g, .int ns]) ++ List.replicate (3 - (lg_sl ([.ref h_g, .int ns])).length) Slot.unset).toArray = ls at hl ⊢
  have hl : lv_has ls 3 [(0, .ref h_g), (1, .int ns)] := hl
  obtain ⟨hx, hb, hr, hml, hown, hts, hlocks, hK, hZ, hA⟩ := id C0
  generalize s.heap = H at hw ⊢
  unfold f_Figures_forget at hf
  refine lv_iconst (v := (0 : Int32)) hx hb d_Figures_forget_0 (by decide) ?_
  refine lv_istore_n (lv' := [(2, .int (0 : Int32)), (0, .ref h_g), (1, .int ns)]) hx hb d_Figures_forget_1 rfl hl (by decide) rfl (fun ls hl => ?_)
  exact b_Figures_forget_2 Zo C0 N g_digits_n ns  out N g_digits g_count g_scale (0 : Int32) hf _ _ hw _ (lv_sub hl [1, 2, 0] rfl)
/-! DirectivePrinter$Figures.takeDecimal(JI)V -/
def f_Figures_takeDecimal_22 (g_digits_n : Nat) : Nat → (Nat → Int32) → Int32 → Int32 → Int64 → Int32 → Option ((Nat → Int32) × Int32 × Int32)
  | 0, _, _, _, _, _ => none
  | fu + 1, g_digits, g_count, g_scale, x4, x6 => (if (24 : Int32) ≤ x6 then some (g_digits, g_count, g_scale) else (if (lg_cmp x4 (0 : Int64)) = 0 then some (g_digits, g_count, g_scale) else (if x6 < 0 ∨ g_digits_n ≤ x6.toNatClampNeg then none else f_Figures_takeDecimal_22 g_digits_n fu (upd g_digits x6.toNatClampNeg ((-(x4 - x4 / (10 : Int64) * (10 : Int64))).toInt32)) (g_count + (1 : Int32)) g_scale (x4 / (10 : Int64)) (x6 + (1 : Int32)))))
def f_Figures_takeDecimal (N : Nat) (g_digits_n : Nat) (g_digits : Nat → Int32) (g_count : Int32) (g_scale : Int32) (v : Int64) (ns : Int32) : Option ((Nat → Int32) × Int32 × Int32) := mm_b3 (f_Figures_forget N g_digits_n g_digits g_count g_scale ns) (fun o_1 o_2 o_3 => (if 0 ≤ (lg_cmp v (0 : Int64)) then f_Figures_takeDecimal_22 g_digits_n N o_1 o_2 o_3 (-v) (0 : Int32) else f_Figures_takeDecimal_22 g_digits_n N o_1 o_2 o_3 v (0 : Int32)))
abbrev r_Figures_takeDecimal : Room := { frames := 1, cells := 0, slots := 0, locals := 22 }
set_option maxHeartbeats 4000000 in
set_option maxRecDepth 100000 in
theorem b_Figures_takeDecimal_22 {h_g h_g_digits : Nat} (Zo : mm_Zx Z ad adK adV) (C0 : mm_cx (dC, dI) vwC (tyl cC cI cJ cQ) Z p s m args meth c b_Figures_takeDecimal 7 none "DirectivePrinter$Figures" w_Figures_takeDecimal A) (N : Nat) (g_digits_n : Nat) (v : Int64) (ns : Int32) (out : (Nat → Int32) × Int32 × Int32) : ∀ (fuel : Nat) (g_digits : Nat → Int32) (g_count : Int32) (g_scale : Int32) (x4 : Int64) (x6 : Int32), f_Figures_takeDecimal_22 g_digits_n fuel g_digits g_count g_scale x4 x6 = some out → ∀ (H : Heap) (locs : List Loc), mm_w (dC, dI) vwC A s [(h_g, .inr (1, [.ref h_g_digits, .int g_count, .int g_scale])), (h_g_digits, .inl (cI, g_digits_n, .inl g_digits))] H locs → ∀ (ls : Array Slot), lv_has ls 7 [(0, .ref h_g), (4, .long x4), (6, .int x6)] → W p l e r_Figures_takeDecimal s m args below meth c H locs 0 0 (MQ below (mm_qv (dC, dI) vwC (tyl cC cI cJ cQ) A [(h_g, .inr (1, [.ref h_g_digits, .int out.2.1, .int out.2.2])), (h_g_digits, .inl (cI, g_digits_n, .inl out.1))]) args s 0 0 A) (F0 m 22 ls []) := by
  obtain ⟨hx, hb, hr, hml, hown, hts, hlocks, hK, hZ, hA⟩ := id C0
  intro fuel
  induction fuel with
  | zero =>
    intro g_digits g_count g_scale x4 x6 hf
    cases (show (none : Option ((Nat → Int32) × Int32 × Int32)) = some out from hf)
  | succ fu ih =>
    intro g_digits g_count g_scale x4 x6 hf H locs hw ls hl
    unfold f_Figures_takeDecimal_22 at hf
    refine lv_iload hx hb d_Figures_takeDecimal_22 (lv_at hl 2 rfl) ?_
    refine lv_bipush (v := (24 : Int32)) hx hb d_Figures_takeDecimal_24 (by decide) ?_
    refine lv_icmp_ge (tgt := 75) hx hb d_Figures_takeDecimal_26 (by decide) (fun hc => ?_) (fun hc => ?_)
    · replace hf := mm_ip hc hf
      obtain rfl := Option.some.inj hf
      exact mm_vret hx hb hr hlocks hK (mm_wsub hw [0, 1] (by decide) rfl rfl) d_Figures_takeDecimal_75
    · replace hf := mm_in hc hf
      refine lv_lload hx hb d_Figures_takeDecimal_29 (lv_at hl 1 rfl) ?_
      refine lv_lconst (v := (0 : Int64)) hx hb d_Figures_takeDecimal_31 (by decide) ?_
      refine W.lcmp hx hb d_Figures_takeDecimal_32 ?_
      refine lv_if_eq (tgt := 75) hx hb d_Figures_takeDecimal_33 (by decide) (fun hc => ?_) (fun hc => ?_)
      · replace hf := mm_ip hc hf
        obtain rfl := Option.some.inj hf
        exact mm_vret hx hb hr hlocks hK (mm_wsub hw [0, 1] (by decide) rfl rfl) d_Figures_takeDecimal_75
      · replace hf := mm_in hc hf
        refine lv_aload_n hx hb d_Figures_takeDecimal_36 rfl (lv_at hl 0 rfl) ?_
        refine va_get (D := (dC, dI)) (ci := 1) (v := .ref h_g_digits) (C := "DirectivePrinter$Figures") (T := T_Figures) (N := 3) hx hb hts (mm_up i_Figures) hown hK hw.1 0 rfl rfl 0 (by decide) (hts _ (List.mem_cons_of_mem _ q_176)) (fun _ h9 => h9) rfl d_Figures_takeDecimal_37 ?_
        refine lv_iload hx hb d_Figures_takeDecimal_40 (lv_at hl 2 rfl) ?_
        refine lv_lload hx hb d_Figures_takeDecimal_42 (lv_at hl 1 rfl) ?_
        refine lv_ldc2 (v := (10 : Int64)) hx hb hown (hts _ (List.mem_cons_of_mem _ q_527)) d_Figures_takeDecimal_44 ?_
        refine lv_lrem hx hb d_Figures_takeDecimal_47 (by decide) ?_
        refine lv_lneg hx hb d_Figures_takeDecimal_48 ?_
        refine lv_l2i (v := (-(x4 - x4 / (10 : Int64) * (10 : Int64))).toInt32) hx hb d_Figures_takeDecimal_49 rfl ?_
        obtain ⟨hz, hf⟩ := mm_grd hf
        refine va_iast hx hb hK hw.1 hw.2.1 hw.2.2 1 1 rfl rfl hz d_Figures_takeDecimal_50 (fun H locs hP hD hS => ?_)
        have hw : mm_w (dC, dI) vwC A s [(h_g, .inr (1, [.ref h_g_digits, .int g_count, .int g_scale])), (h_g_digits, .inl (cI, g_digits_n, .inl (upd g_digits x6.toNatClampNeg ((-(x4 - x4 / (10 : Int64) * (10 : Int64))).toInt32))))] H locs := ⟨hP, hD, hS⟩
        refine lv_lload hx hb d_Figures_takeDecimal_51 (lv_at hl 1 rfl) ?_
        refine lv_ldc2 (v := (10 : Int64)) hx hb hown (hts _ (List.mem_cons_of_mem _ q_527)) d_Figures_takeDecimal_53 ?_
        refine lv_ldiv hx hb d_Figures_takeDecimal_56 (by decide) ?_
        refine lv_lstore (lv' := [(4, .long (x4 / (10 : Int64))), (0, .ref h_g), (6, .int x6)]) hx hb d_Figures_takeDecimal_57 hl (by decide) rfl (fun ls hl => ?_)
        refine lv_aload_n hx hb d_Figures_takeDecimal_59 rfl (lv_at hl 1 rfl) ?_
        refine lv_dup hx hb d_Figures_takeDecimal_60 rfl ?_
        refine va_get (D := (dC, dI)) (ci := 1) (v := .int g_count) (C := "DirectivePrinter$Figures") (T := T_Figures) (N := 3) hx hb hts (mm_up i_Figures) hown hK hw.1 0 rfl rfl 1 (by decide) (hts _ (List.mem_cons_of_mem _ q_177)) (fun _ h9 => h9) rfl d_Figures_takeDecimal_61 ?_
        refine lv_iconst (v := (1 : Int32)) hx hb d_Figures_takeDecimal_64 (by decide) ?_
        refine lv_iadd hx hb d_Figures_takeDecimal_65 ?_
        refine va_put (D := (dC, dI)) (ci := 1) (v := .int (g_count + (1 : Int32))) (ty := .int) (C := "DirectivePrinter$Figures") (T := T_Figures) (N := 3) hx hb hts (mm_up i_Figures) t_Figures t_Figures_ok n_Figures hown hK hw.1 hw.2.1 hw.2.2 0 rfl rfl 1 (by decide) (hts _ (List.mem_cons_of_mem _ q_177)) (fun _ h9 => h9) rfl (by decide +kernel) rfl rfl (Nat.le_of_ble_eq_true rfl) d_Figures_takeDecimal_66 (fun H locs hP hD hS => ?_)
        have hw : mm_w (dC, dI) vwC A s [(h_g, .inr (1, [.ref h_g_digits, .int (g_count + (1 : Int32)), .int g_scale])), (h_g_digits, .inl (cI, g_digits_n, .inl (upd g_digits x6.toNatClampNeg ((-(x4 - x4 / (10 : Int64) * (10 : Int64))).toInt32))))] H locs := ⟨hP, hD, hS⟩
        refine lv_iinc (v := x6 + (1 : Int32)) (lv' := [(6, .int (x6 + (1 : Int32))), (4, .long (x4 / (10 : Int64))), (0, .ref h_g)]) hx hb d_Figures_takeDecimal_69 hl (k := 2) rfl rfl (by decide) rfl (fun ls hl => ?_)
        refine lv_goto (tgt := 22) hx hb d_Figures_takeDecimal_72 (by decide) ?_
        exact ih (upd g_digits x6.toNatClampNeg ((-(x4 - x4 / (10 : Int64) * (10 : Int64))).toInt32)) (g_count + (1 : Int32)) g_scale (x4 / (10 : Int64)) (x6 + (1 : Int32)) hf _ _ hw _ (lv_sub hl [2, 1, 0] rfl)
set_option maxHeartbeats 4000000 in
set_option maxRecDepth 100000 in
theorem c_Figures_takeDecimal (l : Launch) {Z : (Nat → Prop) → State → Heap → Prop} {ad adK adV : Nat → Nat} (Zo : mm_Zx Z ad adK adV) (dC : Nat → ClassId) (dI : Nat → Nat → Nat) (cC cI cJ cQ : ClassId) (N : Nat) (g_digits_n : Nat) (g_digits : Nat → Int32) (g_count : Int32) (g_scale : Int32) (v : Int64) (ns : Int32) (h_g h_g_digits : Nat) (sz : Nat) (out : (Nat → Int32) × Int32 × Int32) (hf : f_Figures_takeDecimal N g_digits_n g_digits g_count g_scale v ns = some out) : Met l y_Figures_takeDecimal w_Figures_takeDecimal r_Figures_takeDecimal (mm_pre (dC, dI) vwC (tyl cC cI cJ cQ) Z [(h_g, .inr (1, [.ref h_g_digits, .int g_count, .int g_scale])), (h_g_digits, .inl (cI, g_digits_n, .inl g_digits))] sz [.ref h_g, .long v, .int ns]) (mm_qv (dC, dI) vwC (tyl cC cI cJ cQ) (va_A [(h_g, .inr (1, [.ref h_g_digits, .int g_count, .int g_scale])), (h_g_digits, .inl (cI, g_digits_n, .inl g_digits))] sz) [(h_g, .inr (1, [.ref h_g_digits, .int out.2.1, .int out.2.2])), (h_g_digits, .inl (cI, g_digits_n, .inl out.1))]) 0 0 (va_A [(h_g, .inr (1, [.ref h_g_digits, .int g_count, .int g_scale])), (h_g_digits, .inl (cI, g_digits_n, .inl g_digits))] sz) := by
  refine mm_of (own := "DirectivePrinter$Figures") (cc := b_Figures_takeDecimal) (maxL := 7) (ret := none) (by decide) rfl rfl ?_
  intro p e s m below meth c hsz C0 hw hname
  generalize (va_A [(h_g, .inr (1, [.ref h_g_digits, .int g_count, .int g_scale])), (h_g_digits, .inl (cI, g_digits_n, .inl g_digits))] sz) = A at C0 hw ⊢
  have hl := lv_entry ([.ref h_g, .long v, .int ns]) (n := 7) (Nat.le_of_ble_eq_true rfl)
  rw [lg_entry_eq]
  generalize (lg_sl ([.ref h_g, .long v, .int ns]) ++ List.replicate (7 - (lg_sl ([.ref h_g, .long v, .int ns])).length) Slot.unset).toArray = ls at hl ⊢
  have hl : lv_has ls 7 [(0, .ref h_g), (1, .long v), (3, .int ns)] := hl
  obtain ⟨hx, hb, hr, hml, hown, hts, hlocks, hK, hZ, hA⟩ := id C0
  generalize s.heap = H at hw ⊢
  unfold f_Figures_takeDecimal at hf
  refine lv_aload_n hx hb d_Figures_takeDecimal_0 rfl (lv_at hl 0 rfl) ?_
  refine lv_iload_n hx hb d_Figures_takeDecimal_1 rfl (lv_at hl 2 rfl) ?_
  obtain ⟨o_1, o_2, o_3, hu, hf⟩ := mm_b3_ok hf
  refine mm_cv (wr := []) (va_runV (As := [.int ns]) (rest := []) ⟨hx, hb, hml, hown, hts⟩ (c_Figures_forget l Zo dC dI cC cI cJ cQ N g_digits_n g_digits g_count g_scale ns h_g h_g_digits H.size (o_1, o_2, o_3) hu) (cwV 1 hts (mm_gV q_523 q_525 q_14 q_62 q_526) rfl rfl rfl (by decide +kernel) ⟨Nat.le_of_ble_eq_true rfl, Nat.le_of_ble_eq_true rfl⟩) (mm_pv Zo.1 hK hw hZ hA [0, 1] (by decide) rfl rfl (ci := 1) (q0 := 0) rfl rfl) rfl rfl hl.1 rfl (lv_room (Nat.le_of_ble_eq_true rfl)) d_Figures_takeDecimal_2 ⟨Nat.le_refl _, Nat.le_refl _⟩) hw hA [0, 1] [] rfl rfl (by decide) (by decide) (fun H locs hw => ?_)
  have hw : mm_w (dC, dI) vwC A s [(h_g, .inr (1, [.ref h_g_digits, .int o_2, .int o_3])), (h_g_digits, .inl (cI, g_digits_n, .inl o_1))] H locs := hw
  refine lv_lload_n hx hb d_Figures_takeDecimal_5 rfl (lv_at hl 1 rfl) ?_
  refine lv_lconst (v := (0 : Int64)) hx hb d_Figures_takeDecimal_6 (by decide) ?_
  refine W.lcmp hx hb d_Figures_takeDecimal_7 ?_
  refine lv_if_ge (tgt := 15) hx hb d_Figures_takeDecimal_8 (by decide) (fun hc => ?_) (fun hc => ?_)
  · replace hf := mm_ip hc hf
    refine lv_lload_n hx hb d_Figures_takeDecimal_15 rfl (lv_at hl 1 rfl) ?_
    refine lv_lneg hx hb d_Figures_takeDecimal_16 ?_
    refine lv_lstore (lv' := [(4, .long (-v)), (0, .ref h_g), (1, .long v), (3, .int ns)]) hx hb d_Figures_takeDecimal_17 hl (by decide) rfl (fun ls hl => ?_)
    refine lv_iconst (v := (0 : Int32)) hx hb d_Figures_takeDecimal_19 (by decide) ?_
    refine lv_istore (lv' := [(6, .int (0 : Int32)), (4, .long (-v)), (0, .ref h_g), (1, .long v), (3, .int ns)]) hx hb d_Figures_takeDecimal_20 hl (by decide) rfl (fun ls hl => ?_)
    exact b_Figures_takeDecimal_22 Zo C0 N g_digits_n v ns  out N o_1 o_2 o_3 (-v) (0 : Int32) hf _ _ hw _ (lv_sub hl [2, 1, 0] rfl)
  · replace hf := mm_in hc hf
    refine lv_lload_n hx hb d_Figures_takeDecimal_11 rfl (lv_at hl 1 rfl) ?_
    refine lv_goto (tgt := 17) hx hb d_Figures_takeDecimal_12 (by decide) ?_
    refine lv_lstore (lv' := [(4, .long v), (0, .ref h_g), (1, .long v), (3, .int ns)]) hx hb d_Figures_takeDecimal_17 hl (by decide) rfl (fun ls hl => ?_)
    refine lv_iconst (v := (0 : Int32)) hx hb d_Figures_takeDecimal_19 (by decide) ?_
    refine lv_istore (lv' := [(6, .int (0 : Int32)), (4, .long v), (0, .ref h_g), (1, .long v), (3, .int ns)]) hx hb d_Figures_takeDecimal_20 hl (by decide) rfl (fun ls hl => ?_)
    exact b_Figures_takeDecimal_22 Zo C0 N g_digits_n v ns  out N o_1 o_2 o_3 v (0 : Int32) hf _ _ hw _ (lv_sub hl [2, 1, 0] rfl)
/-! DirectivePrinter$Figures.takeBits(JII)V -/
def f_Figures_takeBits_35 (g_digits_n : Nat) (bd : Int32) : Nat → (Nat → Int32) → Int32 → Int32 → Int64 → Int64 → Int32 → Option ((Nat → Int32) × Int32 × Int32)
  | 0, _, _, _, _, _, _ => none
  | fu + 1, g_digits, g_count, g_scale, x5, x7, x9 => (if (24 : Int32) ≤ x9 then some (g_digits, g_count, g_scale) else (if (lg_cmp x5 (0 : Int64)) = 0 then some (g_digits, g_count, g_scale) else (if x9 < 0 ∨ g_digits_n ≤ x9.toNatClampNeg then none else f_Figures_takeBits_35 g_digits_n bd fu (upd g_digits x9.toNatClampNeg ((x5 &&& x7).toInt32)) (g_count + (1 : Int32)) g_scale (mm_lu x5 bd) x7 (x9 + (1 : Int32)))))
def f_Figures_takeBits_22 (N : Nat) (g_digits_n : Nat) (bd : Int32) (g_digits : Nat → Int32) (g_count : Int32) (g_scale : Int32) (y0 : Int64) : Option ((Nat → Int32) × Int32 × Int32) := f_Figures_takeBits_35 g_digits_n bd N g_digits g_count g_scale y0 ((mm_ll (1 : Int64) bd) - (1 : Int64)) (0 : Int32)
def f_Figures_takeBits (N : Nat) (g_digits_n : Nat) (g_digits : Nat → Int32) (g_count : Int32) (g_scale : Int32) (v : Int64) (bits : Int32) (bd : Int32) : Option ((Nat → Int32) × Int32 × Int32) := mm_b3 (f_Figures_forget N g_digits_n g_digits g_count g_scale (0 : Int32)) (fun o_1 o_2 o_3 => (if (64 : Int32) ≤ bits then f_Figures_takeBits_22 N g_digits_n bd o_1 o_2 o_3 v else f_Figures_takeBits_22 N g_digits_n bd o_1 o_2 o_3 (v &&& ((mm_ll (1 : Int64) bits) - (1 : Int64)))))
abbrev r_Figures_takeBits : Room := { frames := 1, cells := 0, slots := 0, locals := 22 }
set_option maxHeartbeats 4000000 in
set_option maxRecDepth 100000 in
theorem b_Figures_takeBits_35 {h_g h_g_digits : Nat} (Zo : mm_Zx Z ad adK adV) (C0 : mm_cx (dC, dI) vwC (tyl cC cI cJ cQ) Z p s m args meth c b_Figures_takeBits 10 none "DirectivePrinter$Figures" w_Figures_takeBits A) (N : Nat) (g_digits_n : Nat) (v : Int64) (bits : Int32) (bd : Int32) (out : (Nat → Int32) × Int32 × Int32) : ∀ (fuel : Nat) (g_digits : Nat → Int32) (g_count : Int32) (g_scale : Int32) (x5 : Int64) (x7 : Int64) (x9 : Int32), f_Figures_takeBits_35 g_digits_n bd fuel g_digits g_count g_scale x5 x7 x9 = some out → ∀ (H : Heap) (locs : List Loc), mm_w (dC, dI) vwC A s [(h_g, .inr (1, [.ref h_g_digits, .int g_count, .int g_scale])), (h_g_digits, .inl (cI, g_digits_n, .inl g_digits))] H locs → ∀ (ls : Array Slot), lv_has ls 10 [(0, .ref h_g), (4, .int bd), (5, .long x5), (7, .long x7), (9, .int x9)] → W p l e r_Figures_takeBits s m args below meth c H locs 0 0 (MQ below (mm_qv (dC, dI) vwC (tyl cC cI cJ cQ) A [(h_g, .inr (1, [.ref h_g_digits, .int out.2.1, .int out.2.2])), (h_g_digits, .inl (cI, g_digits_n, .inl out.1))]) args s 0 0 A) (F0 m 35 ls []) := by
  obtain ⟨hx, hb, hr, hml, hown, hts, hlocks, hK, hZ, hA⟩ := id C0
  intro fuel
  induction fuel with
  | zero =>
    intro g_digits g_count g_scale x5 x7 x9 hf
    cases (show (none : Option ((Nat → Int32) × Int32 × Int32)) = some out from hf)
  | succ fu ih =>
    intro g_digits g_count g_scale x5 x7 x9 hf H locs hw ls hl
    unfold f_Figures_takeBits_35 at hf
    refine lv_iload hx hb d_Figures_takeBits_35 (lv_at hl 4 rfl) ?_
    refine lv_bipush (v := (24 : Int32)) hx hb d_Figures_takeBits_37 (by decide) ?_
    refine lv_icmp_ge (tgt := 85) hx hb d_Figures_takeBits_39 (by decide) (fun hc => ?_) (fun hc => ?_)
    · replace hf := mm_ip hc hf
      obtain rfl := Option.some.inj hf
      exact mm_vret hx hb hr hlocks hK (mm_wsub hw [0, 1] (by decide) rfl rfl) d_Figures_takeBits_85
    · replace hf := mm_in hc hf
      refine lv_lload hx hb d_Figures_takeBits_42 (lv_at hl 2 rfl) ?_
      refine lv_lconst (v := (0 : Int64)) hx hb d_Figures_takeBits_44 (by decide) ?_
      refine W.lcmp hx hb d_Figures_takeBits_45 ?_
      refine lv_if_eq (tgt := 85) hx hb d_Figures_takeBits_46 (by decide) (fun hc => ?_) (fun hc => ?_)
      · replace hf := mm_ip hc hf
        obtain rfl := Option.some.inj hf
        exact mm_vret hx hb hr hlocks hK (mm_wsub hw [0, 1] (by decide) rfl rfl) d_Figures_takeBits_85
      · replace hf := mm_in hc hf
        refine lv_aload_n hx hb d_Figures_takeBits_49 rfl (lv_at hl 0 rfl) ?_
        refine va_get (D := (dC, dI)) (ci := 1) (v := .ref h_g_digits) (C := "DirectivePrinter$Figures") (T := T_Figures) (N := 3) hx hb hts (mm_up i_Figures) hown hK hw.1 0 rfl rfl 0 (by decide) (hts _ (List.mem_cons_of_mem _ q_176)) (fun _ h9 => h9) rfl d_Figures_takeBits_50 ?_
        refine lv_iload hx hb d_Figures_takeBits_53 (lv_at hl 4 rfl) ?_
        refine lv_lload hx hb d_Figures_takeBits_55 (lv_at hl 2 rfl) ?_
        refine lv_lload hx hb d_Figures_takeBits_57 (lv_at hl 3 rfl) ?_
        refine lv_land hx hb d_Figures_takeBits_59 ?_
        refine lv_l2i (v := (x5 &&& x7).toInt32) hx hb d_Figures_takeBits_60 rfl ?_
        obtain ⟨hz, hf⟩ := mm_grd hf
        refine va_iast hx hb hK hw.1 hw.2.1 hw.2.2 1 1 rfl rfl hz d_Figures_takeBits_61 (fun H locs hP hD hS => ?_)
        have hw : mm_w (dC, dI) vwC A s [(h_g, .inr (1, [.ref h_g_digits, .int g_count, .int g_scale])), (h_g_digits, .inl (cI, g_digits_n, .inl (upd g_digits x9.toNatClampNeg ((x5 &&& x7).toInt32))))] H locs := ⟨hP, hD, hS⟩
        refine lv_lload hx hb d_Figures_takeBits_62 (lv_at hl 2 rfl) ?_
        refine lv_iload hx hb d_Figures_takeBits_64 (lv_at hl 1 rfl) ?_
        refine lv_lushr (v := mm_lu x5 bd) hx hb d_Figures_takeBits_66 rfl ?_
        refine lv_lstore (lv' := [(5, .long (mm_lu x5 bd)), (0, .ref h_g), (4, .int bd), (7, .long x7), (9, .int x9)]) hx hb d_Figures_takeBits_67 hl (by decide) rfl (fun ls hl => ?_)
        refine lv_aload_n hx hb d_Figures_takeBits_69 rfl (lv_at hl 1 rfl) ?_
        refine lv_dup hx hb d_Figures_takeBits_70 rfl ?_
        refine va_get (D := (dC, dI)) (ci := 1) (v := .int g_count) (C := "DirectivePrinter$Figures") (T := T_Figures) (N := 3) hx hb hts (mm_up i_Figures) hown hK hw.1 0 rfl rfl 1 (by decide) (hts _ (List.mem_cons_of_mem _ q_177)) (fun _ h9 => h9) rfl d_Figures_takeBits_71 ?_
        refine lv_iconst (v := (1 : Int32)) hx hb d_Figures_takeBits_74 (by decide) ?_
        refine lv_iadd hx hb d_Figures_takeBits_75 ?_
        refine va_put (D := (dC, dI)) (ci := 1) (v := .int (g_count + (1 : Int32))) (ty := .int) (C := "DirectivePrinter$Figures") (T := T_Figures) (N := 3) hx hb hts (mm_up i_Figures) t_Figures t_Figures_ok n_Figures hown hK hw.1 hw.2.1 hw.2.2 0 rfl rfl 1 (by decide) (hts _ (List.mem_cons_of_mem _ q_177)) (fun _ h9 => h9) rfl (by decide +kernel) rfl rfl (Nat.le_of_ble_eq_true rfl) d_Figures_takeBits_76 (fun H locs hP hD hS => ?_)
        have hw : mm_w (dC, dI) vwC A s [(h_g, .inr (1, [.ref h_g_digits, .int (g_count + (1 : Int32)), .int g_scale])), (h_g_digits, .inl (cI, g_digits_n, .inl (upd g_digits x9.toNatClampNeg ((x5 &&& x7).toInt32))))] H locs := ⟨hP, hD, hS⟩
        refine lv_iinc (v := x9 + (1 : Int32)) (lv' := [(9, .int (x9 + (1 : Int32))), (5, .long (mm_lu x5 bd)), (0, .ref h_g), (4, .int bd), (7, .long x7)]) hx hb d_Figures_takeBits_79 hl (k := 4) rfl rfl (by decide) rfl (fun ls hl => ?_)
        refine lv_goto (tgt := 35) hx hb d_Figures_takeBits_82 (by decide) ?_
        exact ih (upd g_digits x9.toNatClampNeg ((x5 &&& x7).toInt32)) (g_count + (1 : Int32)) g_scale (mm_lu x5 bd) x7 (x9 + (1 : Int32)) hf _ _ hw _ (lv_sub hl [2, 3, 1, 4, 0] rfl)
set_option maxHeartbeats 4000000 in
set_option maxRecDepth 100000 in
theorem b_Figures_takeBits_22 {h_g h_g_digits : Nat} (Zo : mm_Zx Z ad adK adV) (C0 : mm_cx (dC, dI) vwC (tyl cC cI cJ cQ) Z p s m args meth c b_Figures_takeBits 10 none "DirectivePrinter$Figures" w_Figures_takeBits A) (N : Nat) (g_digits_n : Nat) (v : Int64) (bits : Int32) (bd : Int32) (out : (Nat → Int32) × Int32 × Int32) : ∀ (g_digits : Nat → Int32) (g_count : Int32) (g_scale : Int32) (y0 : Int64), f_Figures_takeBits_22 N g_digits_n bd g_digits g_count g_scale y0 = some out → ∀ (H : Heap) (locs : List Loc), mm_w (dC, dI) vwC A s [(h_g, .inr (1, [.ref h_g_digits, .int g_count, .int g_scale])), (h_g_digits, .inl (cI, g_digits_n, .inl g_digits))] H locs → ∀ (ls : Array Slot), lv_has ls 10 [(0, .ref h_g), (4, .int bd)] → W p l e r_Figures_takeBits s m args below meth c H locs 0 0 (MQ below (mm_qv (dC, dI) vwC (tyl cC cI cJ cQ) A [(h_g, .inr (1, [.ref h_g_digits, .int out.2.1, .int out.2.2])), (h_g_digits, .inl (cI, g_digits_n, .inl out.1))]) args s 0 0 A) (F0 m 22 ls [.long y0]) := by
  obtain ⟨hx, hb, hr, hml, hown, hts, hlocks, hK, hZ, hA⟩ := id C0
  intro g_digits g_count g_scale y0 hf H locs hw ls hl
  unfold f_Figures_takeBits_22 at hf
  refine lv_lstore (lv' := [(5, .long y0), (0, .ref h_g), (4, .int bd)]) hx hb d_Figures_takeBits_22 hl (by decide) rfl (fun ls hl => ?_)
  refine lv_lconst (v := (1 : Int64)) hx hb d_Figures_takeBits_24 (by decide) ?_
  refine lv_iload hx hb d_Figures_takeBits_25 (lv_at hl 2 rfl) ?_
  refine lv_lshl (v := mm_ll (1 : Int64) bd) hx hb d_Figures_takeBits_27 rfl ?_
  refine lv_lconst (v := (1 : Int64)) hx hb d_Figures_takeBits_28 (by decide) ?_
  refine lv_lsub hx hb d_Figures_takeBits_29 ?_
  refine lv_lstore (lv' := [(7, .long ((mm_ll (1 : Int64) bd) - (1 : Int64))), (5, .long y0), (0, .ref h_g), (4, .int bd)]) hx hb d_Figures_takeBits_30 hl (by decide) rfl (fun ls hl => ?_)
  refine lv_iconst (v := (0 : Int32)) hx hb d_Figures_takeBits_32 (by decide) ?_
  refine lv_istore (lv' := [(9, .int (0 : Int32)), (7, .long ((mm_ll (1 : Int64) bd) - (1 : Int64))), (5, .long y0), (0, .ref h_g), (4, .int bd)]) hx hb d_Figures_takeBits_33 hl (by decide) rfl (fun ls hl => ?_)
  exact b_Figures_takeBits_35 Zo C0 N g_digits_n v bits bd  out N g_digits g_count g_scale y0 ((mm_ll (1 : Int64) bd) - (1 : Int64)) (0 : Int32) hf _ _ hw _ (lv_sub hl [3, 4, 2, 1, 0] rfl)
set_option maxHeartbeats 4000000 in
set_option maxRecDepth 100000 in
theorem c_Figures_takeBits (l : Launch) {Z : (Nat → Prop) → State → Heap → Prop} {ad adK adV : Nat → Nat} (Zo : mm_Zx Z ad adK adV) (dC : Nat → ClassId) (dI : Nat → Nat → Nat) (cC cI cJ cQ : ClassId) (N : Nat) (g_digits_n : Nat) (g_digits : Nat → Int32) (g_count : Int32) (g_scale : Int32) (v : Int64) (bits : Int32) (bd : Int32) (h_g h_g_digits : Nat) (sz : Nat) (out : (Nat → Int32) × Int32 × Int32) (hf : f_Figures_takeBits N g_digits_n g_digits g_count g_scale v bits bd = some out) : Met l y_Figures_takeBits w_Figures_takeBits r_Figures_takeBits (mm_pre (dC, dI) vwC (tyl cC cI cJ cQ) Z [(h_g, .inr (1, [.ref h_g_digits, .int g_count, .int g_scale])), (h_g_digits, .inl (cI, g_digits_n, .inl g_digits))] sz [.ref h_g, .long v, .int bits, .int bd]) (mm_qv (dC, dI) vwC (tyl cC cI cJ cQ) (va_A [(h_g, .inr (1, [.ref h_g_digits, .int g_count, .int g_scale])), (h_g_digits, .inl (cI, g_digits_n, .inl g_digits))] sz) [(h_g, .inr (1, [.ref h_g_digits, .int out.2.1, .int out.2.2])), (h_g_digits, .inl (cI, g_digits_n, .inl out.1))]) 0 0 (va_A [(h_g, .inr (1, [.ref h_g_digits, .int g_count, .int g_scale])), (h_g_digits, .inl (cI, g_digits_n, .inl g_digits))] sz) := by
  refine mm_of (own := "DirectivePrinter$Figures") (cc := b_Figures_takeBits) (maxL := 10) (ret := none) (by decide) rfl rfl ?_
  intro p e s m below meth c hsz C0 hw hname
  generalize (va_A [(h_g, .inr (1, [.ref h_g_digits, .int g_count, .int g_scale])), (h_g_digits, .inl (cI, g_digits_n, .inl g_digits))] sz) = A at C0 hw ⊢
  have hl := lv_entry ([.ref h_g, .long v, .int bits, .int bd]) (n := 10) (Nat.le_of_ble_eq_true rfl)
  rw [lg_entry_eq]
  generalize (lg_sl ([.ref h_g, .long v, .int bits, .int bd]) ++ List.replicate (10 - (lg_sl ([.ref h_g, .long v, .int bits, .int bd])).length) Slot.unset).toArray = ls at hl ⊢
  have hl : lv_has ls 10 [(0, .ref h_g), (1, .long v), (3, .int bits), (4, .int bd)] := hl
  obtain ⟨hx, hb, hr, hml, hown, hts, hlocks, hK, hZ, hA⟩ := id C0
  generalize s.heap = H at hw ⊢
  unfold f_Figures_takeBits at hf
  refine lv_aload_n hx hb d_Figures_takeBits_0 rfl (lv_at hl 0 rfl) ?_
  refine lv_iconst (v := (0 : Int32)) hx hb d_Figures_takeBits_1 (by decide) ?_
  obtain ⟨o_1, o_2, o_3, hu, hf⟩ := mm_b3_ok hf
  refine mm_cv (wr := []) (va_runV (As := [.int (0 : Int32)]) (rest := []) ⟨hx, hb, hml, hown, hts⟩ (c_Figures_forget l Zo dC dI cC cI cJ cQ N g_digits_n g_digits g_count g_scale (0 : Int32) h_g h_g_digits H.size (o_1, o_2, o_3) hu) (cwV 1 hts (mm_gV q_523 q_525 q_14 q_62 q_526) rfl rfl rfl (by decide +kernel) ⟨Nat.le_of_ble_eq_true rfl, Nat.le_of_ble_eq_true rfl⟩) (mm_pv Zo.1 hK hw hZ hA [0, 1] (by decide) rfl rfl (ci := 1) (q0 := 0) rfl rfl) rfl rfl hl.1 rfl (lv_room (Nat.le_of_ble_eq_true rfl)) d_Figures_takeBits_2 ⟨Nat.le_refl _, Nat.le_refl _⟩) hw hA [0, 1] [] rfl rfl (by decide) (by decide) (fun H locs hw => ?_)
  have hw : mm_w (dC, dI) vwC A s [(h_g, .inr (1, [.ref h_g_digits, .int o_2, .int o_3])), (h_g_digits, .inl (cI, g_digits_n, .inl o_1))] H locs := hw
  refine lv_iload_n hx hb d_Figures_takeBits_5 rfl (lv_at hl 2 rfl) ?_
  refine lv_bipush (v := (64 : Int32)) hx hb d_Figures_takeBits_6 (by decide) ?_
  refine lv_icmp_ge (tgt := 21) hx hb d_Figures_takeBits_8 (by decide) (fun hc => ?_) (fun hc => ?_)
  · replace hf := mm_ip hc hf
    refine lv_lload_n hx hb d_Figures_takeBits_21 rfl (lv_at hl 1 rfl) ?_
    exact b_Figures_takeBits_22 Zo C0 N g_digits_n v bits bd  out o_1 o_2 o_3 v hf _ _ hw _ (lv_sub hl [0, 3] rfl)
  · replace hf := mm_in hc hf
    refine lv_lload_n hx hb d_Figures_takeBits_11 rfl (lv_at hl 1 rfl) ?_
    refine lv_lconst (v := (1 : Int64)) hx hb d_Figures_takeBits_12 (by decide) ?_
    refine lv_iload_n hx hb d_Figures_takeBits_13 rfl (lv_at hl 2 rfl) ?_
    refine lv_lshl (v := mm_ll (1 : Int64) bits) hx hb d_Figures_takeBits_14 rfl ?_
    refine lv_lconst (v := (1 : Int64)) hx hb d_Figures_takeBits_15 (by decide) ?_
    refine lv_lsub hx hb d_Figures_takeBits_16 ?_
    refine lv_land hx hb d_Figures_takeBits_17 ?_
    refine lv_goto (tgt := 22) hx hb d_Figures_takeBits_18 (by decide) ?_
    exact b_Figures_takeBits_22 Zo C0 N g_digits_n v bits bd  out o_1 o_2 o_3 (v &&& ((mm_ll (1 : Int64) bits) - (1 : Int64))) hf _ _ hw _ (lv_sub hl [0, 3] rfl)
/-! DirectivePrinter$Figures.isZero()Z -/
def f_Figures_isZero (g_count : Int32) : Option (Int32) := (if g_count = 0 then some ((1 : Int32)) else some ((0 : Int32)))
abbrev r_Figures_isZero : Room := { frames := 0, cells := 0, slots := 0, locals := 0 }
set_option maxHeartbeats 4000000 in
set_option maxRecDepth 100000 in
theorem c_Figures_isZero (l : Launch) {Z : (Nat → Prop) → State → Heap → Prop} {ad adK adV : Nat → Nat} (Zo : mm_Zx Z ad adK adV) (dC : Nat → ClassId) (dI : Nat → Nat → Nat) (cC cI cJ cQ : ClassId) (g_digits_n : Nat) (g_digits : Nat → Int32) (g_count : Int32) (g_scale : Int32) (h_g h_g_digits : Nat) (sz : Nat) (out : Int32) (hf : f_Figures_isZero g_count = some out) : Met l y_Figures_isZero w_Figures_isZero r_Figures_isZero (mm_pre (dC, dI) vwC (tyl cC cI cJ cQ) Z [(h_g, .inr (1, [.ref h_g_digits, .int g_count, .int g_scale])), (h_g_digits, .inl (cI, g_digits_n, .inl g_digits))] sz [.ref h_g]) (mm_qi (dC, dI) vwC (tyl cC cI cJ cQ) (va_A [(h_g, .inr (1, [.ref h_g_digits, .int g_count, .int g_scale])), (h_g_digits, .inl (cI, g_digits_n, .inl g_digits))] sz) [(h_g, .inr (1, [.ref h_g_digits, .int g_count, .int g_scale])), (h_g_digits, .inl (cI, g_digits_n, .inl g_digits))] out) 0 0 (va_A [(h_g, .inr (1, [.ref h_g_digits, .int g_count, .int g_scale])), (h_g_digits, .inl (cI, g_digits_n, .inl g_digits))] sz) := by
  refine mm_of (own := "DirectivePrinter$Figures") (cc := b_Figures_isZero) (maxL := 1) (ret := (some .boolean)) (by decide) rfl rfl ?_
  intro p e s m below meth c hsz C0 hw hname
  generalize (va_A [(h_g, .inr (1, [.ref h_g_digits, .int g_count, .int g_scale])), (h_g_digits, .inl (cI, g_digits_n, .inl g_digits))] sz) = A at C0 hw ⊢
  have hl := lv_entry ([.ref h_g]) (n := 1) (Nat.le_of_ble_eq_true rfl)
  rw [lg_entry_eq]
  generalize (lg_sl ([.ref h_g]) ++ List.replicate (1 - (lg_sl ([.ref h_g])).length) Slot.unset).toArray = ls at hl ⊢
  have hl : lv_has ls 1 [(0, .ref h_g)] := hl
  obtain ⟨hx, hb, hr, hml, hown, hts, hlocks, hK, hZ, hA⟩ := id C0
  generalize s.heap = H at hw ⊢
  unfold f_Figures_isZero at hf
  refine lv_aload_n hx hb d_Figures_isZero_0 rfl (lv_at hl 0 rfl) ?_
  refine va_get (D := (dC, dI)) (ci := 1) (v := .int g_count) (C := "DirectivePrinter$Figures") (T := T_Figures) (N := 3) hx hb hts (mm_up i_Figures) hown hK hw.1 0 rfl rfl 1 (by decide) (hts _ (List.mem_cons_of_mem _ q_177)) (fun _ h9 => h9) rfl d_Figures_isZero_1 ?_
  refine lv_if_ne (tgt := 11) hx hb d_Figures_isZero_4 (by decide) (fun hc => ?_) (fun hc => ?_)
  · replace hf := mm_in hc hf
    refine lv_iconst (v := (0 : Int32)) hx hb d_Figures_isZero_11 (by decide) ?_
    obtain rfl := Option.some.inj hf
    exact mm_zret hx hb hr hlocks hK (by decide) (mm_wsub hw [0, 1] (by decide) rfl rfl) rfl d_Figures_isZero_12
  · replace hf := mm_ip hc hf
    refine lv_iconst (v := (1 : Int32)) hx hb d_Figures_isZero_7 (by decide) ?_
    refine lv_goto (tgt := 12) hx hb d_Figures_isZero_8 (by decide) ?_
    obtain rfl := Option.some.inj hf
    exact mm_zret hx hb hr hlocks hK (by decide) (mm_wsub hw [0, 1] (by decide) rfl rfl) rfl d_Figures_isZero_12
/-! DirectivePrinter$Figures.top()I -/
def f_Figures_top (g_count : Int32) (g_scale : Int32) : Option (Int32) := some ((g_count - (1 : Int32)) - g_scale)
abbrev r_Figures_top : Room := { frames := 0, cells := 0, slots := 0, locals := 0 }
set_option maxHeartbeats 4000000 in
set_option maxRecDepth 100000 in
theorem c_Figures_top (l : Launch) {Z : (Nat → Prop) → State → Heap → Prop} {ad adK adV : Nat → Nat} (Zo : mm_Zx Z ad adK adV) (dC : Nat → ClassId) (dI : Nat → Nat → Nat) (cC cI cJ cQ : ClassId) (g_digits_n : Nat) (g_digits : Nat → Int32) (g_count : Int32) (g_scale : Int32) (h_g h_g_digits : Nat) (sz : Nat) (out : Int32) (hf : f_Figures_top g_count g_scale = some out) : Met l y_Figures_top w_Figures_top r_Figures_top (mm_pre (dC, dI) vwC (tyl cC cI cJ cQ) Z [(h_g, .inr (1, [.ref h_g_digits, .int g_count, .int g_scale])), (h_g_digits, .inl (cI, g_digits_n, .inl g_digits))] sz [.ref h_g]) (mm_qi (dC, dI) vwC (tyl cC cI cJ cQ) (va_A [(h_g, .inr (1, [.ref h_g_digits, .int g_count, .int g_scale])), (h_g_digits, .inl (cI, g_digits_n, .inl g_digits))] sz) [(h_g, .inr (1, [.ref h_g_digits, .int g_count, .int g_scale])), (h_g_digits, .inl (cI, g_digits_n, .inl g_digits))] out) 0 0 (va_A [(h_g, .inr (1, [.ref h_g_digits, .int g_count, .int g_scale])), (h_g_digits, .inl (cI, g_digits_n, .inl g_digits))] sz) := by
  refine mm_of (own := "DirectivePrinter$Figures") (cc := b_Figures_top) (maxL := 1) (ret := (some .int)) (by decide) rfl rfl ?_
  intro p e s m below meth c hsz C0 hw hname
  generalize (va_A [(h_g, .inr (1, [.ref h_g_digits, .int g_count, .int g_scale])), (h_g_digits, .inl (cI, g_digits_n, .inl g_digits))] sz) = A at C0 hw ⊢
  have hl := lv_entry ([.ref h_g]) (n := 1) (Nat.le_of_ble_eq_true rfl)
  rw [lg_entry_eq]
  generalize (lg_sl ([.ref h_g]) ++ List.replicate (1 - (lg_sl ([.ref h_g])).length) Slot.unset).toArray = ls at hl ⊢
  have hl : lv_has ls 1 [(0, .ref h_g)] := hl
  obtain ⟨hx, hb, hr, hml, hown, hts, hlocks, hK, hZ, hA⟩ := id C0
  generalize s.heap = H at hw ⊢
  unfold f_Figures_top at hf
  refine lv_aload_n hx hb d_Figures_top_0 rfl (lv_at hl 0 rfl) ?_
  refine va_get (D := (dC, dI)) (ci := 1) (v := .int g_count) (C := "DirectivePrinter$Figures") (T := T_Figures) (N := 3) hx hb hts (mm_up i_Figures) hown hK hw.1 0 rfl rfl 1 (by decide) (hts _ (List.mem_cons_of_mem _ q_177)) (fun _ h9 => h9) rfl d_Figures_top_1 ?_
  refine lv_iconst (v := (1 : Int32)) hx hb d_Figures_top_4 (by decide) ?_
  refine lv_isub hx hb d_Figures_top_5 ?_
  refine lv_aload_n hx hb d_Figures_top_6 rfl (lv_at hl 0 rfl) ?_
  refine va_get (D := (dC, dI)) (ci := 1) (v := .int g_scale) (C := "DirectivePrinter$Figures") (T := T_Figures) (N := 3) hx hb hts (mm_up i_Figures) hown hK hw.1 0 rfl rfl 2 (by decide) (hts _ (List.mem_cons_of_mem _ q_178)) (fun _ h9 => h9) rfl d_Figures_top_7 ?_
  refine lv_isub hx hb d_Figures_top_10 ?_
  obtain rfl := Option.some.inj hf
  exact mm_iret hx hb hr hlocks hK (mm_wsub hw [0, 1] (by decide) rfl rfl) rfl d_Figures_top_11
/-! DirectivePrinter$Figures.exponent()I -/
def f_Figures_exponent (g_count : Int32) (g_scale : Int32) : Option (Int32) := mm_b1 (f_Figures_isZero g_count) (fun r_1 => (if r_1 = 0 then mm_b1 (f_Figures_top g_count g_scale) (fun r_2 => some (r_2)) else some ((0 : Int32))))
abbrev r_Figures_exponent : Room := { frames := 1, cells := 0, slots := 0, locals := 20 }
set_option maxHeartbeats 4000000 in
set_option maxRecDepth 100000 in
theorem c_Figures_exponent (l : Launch) {Z : (Nat → Prop) → State → Heap → Prop} {ad adK adV : Nat → Nat} (Zo : mm_Zx Z ad adK adV) (dC : Nat → ClassId) (dI : Nat → Nat → Nat) (cC cI cJ cQ : ClassId) (g_digits_n : Nat) (g_digits : Nat → Int32) (g_count : Int32) (g_scale : Int32) (h_g h_g_digits : Nat) (sz : Nat) (out : Int32) (hf : f_Figures_exponent g_count g_scale = some out) : Met l y_Figures_exponent w_Figures_exponent r_Figures_exponent (mm_pre (dC, dI) vwC (tyl cC cI cJ cQ) Z [(h_g, .inr (1, [.ref h_g_digits, .int g_count, .int g_scale])), (h_g_digits, .inl (cI, g_digits_n, .inl g_digits))] sz [.ref h_g]) (mm_qi (dC, dI) vwC (tyl cC cI cJ cQ) (va_A [(h_g, .inr (1, [.ref h_g_digits, .int g_count, .int g_scale])), (h_g_digits, .inl (cI, g_digits_n, .inl g_digits))] sz) [(h_g, .inr (1, [.ref h_g_digits, .int g_count, .int g_scale])), (h_g_digits, .inl (cI, g_digits_n, .inl g_digits))] out) 0 0 (va_A [(h_g, .inr (1, [.ref h_g_digits, .int g_count, .int g_scale])), (h_g_digits, .inl (cI, g_digits_n, .inl g_digits))] sz) := by
  refine mm_of (own := "DirectivePrinter$Figures") (cc := b_Figures_exponent) (maxL := 1) (ret := (some .int)) (by decide) rfl rfl ?_
  intro p e s m below meth c hsz C0 hw hname
  generalize (va_A [(h_g, .inr (1, [.ref h_g_digits, .int g_count, .int g_scale])), (h_g_digits, .inl (cI, g_digits_n, .inl g_digits))] sz) = A at C0 hw ⊢
  have hl := lv_entry ([.ref h_g]) (n := 1) (Nat.le_of_ble_eq_true rfl)
  rw [lg_entry_eq]
  generalize (lg_sl ([.ref h_g]) ++ List.replicate (1 - (lg_sl ([.ref h_g])).length) Slot.unset).toArray = ls at hl ⊢
  have hl : lv_has ls 1 [(0, .ref h_g)] := hl
  obtain ⟨hx, hb, hr, hml, hown, hts, hlocks, hK, hZ, hA⟩ := id C0
  generalize s.heap = H at hw ⊢
  unfold f_Figures_exponent at hf
  refine lv_aload_n hx hb d_Figures_exponent_0 rfl (lv_at hl 0 rfl) ?_
  obtain ⟨r_1, hu, hf⟩ := mm_b1_ok hf
  refine mm_ci (wr := []) (va_runV (As := []) (rest := []) ⟨hx, hb, hml, hown, hts⟩ (c_Figures_isZero l Zo dC dI cC cI cJ cQ g_digits_n g_digits g_count g_scale h_g h_g_digits H.size r_1 hu) (cwV 0 hts (mm_gV q_594 q_595 q_596 q_62 q_597) rfl rfl rfl (by decide +kernel) ⟨Nat.le_of_ble_eq_true rfl, Nat.le_of_ble_eq_true rfl⟩) (mm_pv Zo.1 hK hw hZ hA [0, 1] (by decide) rfl rfl (ci := 1) (q0 := 0) rfl rfl) rfl rfl hl.1 rfl (lv_room (Nat.le_of_ble_eq_true rfl)) d_Figures_exponent_1 ⟨Nat.le_refl _, Nat.le_refl _⟩) hw hA [0, 1] [] rfl rfl (by decide) (by decide) (fun H locs hw => ?_)
  have hw : mm_w (dC, dI) vwC A s [(h_g, .inr (1, [.ref h_g_digits, .int g_count, .int g_scale])), (h_g_digits, .inl (cI, g_digits_n, .inl g_digits))] H locs := hw
  refine lv_if_eq (tgt := 11) hx hb d_Figures_exponent_4 (by decide) (fun hc => ?_) (fun hc => ?_)
  · replace hf := mm_ip hc hf
    refine lv_aload_n hx hb d_Figures_exponent_11 rfl (lv_at hl 0 rfl) ?_
    obtain ⟨r_2, hu, hf⟩ := mm_b1_ok hf
    refine mm_ci (wr := []) (va_runV (As := []) (rest := []) ⟨hx, hb, hml, hown, hts⟩ (c_Figures_top l Zo dC dI cC cI cJ cQ g_digits_n g_digits g_count g_scale h_g h_g_digits H.size r_2 hu) (cwV 0 hts (mm_gV q_598 q_533 q_534 q_62 q_535) rfl rfl rfl (by decide +kernel) ⟨Nat.le_of_ble_eq_true rfl, Nat.le_of_ble_eq_true rfl⟩) (mm_pv Zo.1 hK hw hZ hA [0, 1] (by decide) rfl rfl (ci := 1) (q0 := 0) rfl rfl) rfl rfl hl.1 rfl (lv_room (Nat.le_of_ble_eq_true rfl)) d_Figures_exponent_12 ⟨Nat.le_refl _, Nat.le_refl _⟩) hw hA [0, 1] [] rfl rfl (by decide) (by decide) (fun H locs hw => ?_)
    have hw : mm_w (dC, dI) vwC A s [(h_g, .inr (1, [.ref h_g_digits, .int g_count, .int g_scale])), (h_g_digits, .inl (cI, g_digits_n, .inl g_digits))] H locs := hw
    obtain rfl := Option.some.inj hf
    exact mm_iret hx hb hr hlocks hK (mm_wsub hw [0, 1] (by decide) rfl rfl) rfl d_Figures_exponent_15
  · replace hf := mm_in hc hf
    refine lv_iconst (v := (0 : Int32)) hx hb d_Figures_exponent_7 (by decide) ?_
    refine lv_goto (tgt := 15) hx hb d_Figures_exponent_8 (by decide) ?_
    obtain rfl := Option.some.inj hf
    exact mm_iret hx hb hr hlocks hK (mm_wsub hw [0, 1] (by decide) rfl rfl) rfl d_Figures_exponent_15
/-! DirectivePrinter$Figures.lowestPower()I -/
def f_Figures_lowestPower (g_scale : Int32) : Option (Int32) := some (-g_scale)
abbrev r_Figures_lowestPower : Room := { frames := 0, cells := 0, slots := 0, locals := 0 }
set_option maxHeartbeats 4000000 in
set_option maxRecDepth 100000 in
theorem c_Figures_lowestPower (l : Launch) {Z : (Nat → Prop) → State → Heap → Prop} {ad adK adV : Nat → Nat} (Zo : mm_Zx Z ad adK adV) (dC : Nat → ClassId) (dI : Nat → Nat → Nat) (cC cI cJ cQ : ClassId) (g_digits_n : Nat) (g_digits : Nat → Int32) (g_count : Int32) (g_scale : Int32) (h_g h_g_digits : Nat) (sz : Nat) (out : Int32) (hf : f_Figures_lowestPower g_scale = some out) : Met l y_Figures_lowestPower w_Figures_lowestPower r_Figures_lowestPower (mm_pre (dC, dI) vwC (tyl cC cI cJ cQ) Z [(h_g, .inr (1, [.ref h_g_digits, .int g_count, .int g_scale])), (h_g_digits, .inl (cI, g_digits_n, .inl g_digits))] sz [.ref h_g]) (mm_qi (dC, dI) vwC (tyl cC cI cJ cQ) (va_A [(h_g, .inr (1, [.ref h_g_digits, .int g_count, .int g_scale])), (h_g_digits, .inl (cI, g_digits_n, .inl g_digits))] sz) [(h_g, .inr (1, [.ref h_g_digits, .int g_count, .int g_scale])), (h_g_digits, .inl (cI, g_digits_n, .inl g_digits))] out) 0 0 (va_A [(h_g, .inr (1, [.ref h_g_digits, .int g_count, .int g_scale])), (h_g_digits, .inl (cI, g_digits_n, .inl g_digits))] sz) := by
  refine mm_of (own := "DirectivePrinter$Figures") (cc := b_Figures_lowestPower) (maxL := 1) (ret := (some .int)) (by decide) rfl rfl ?_
  intro p e s m below meth c hsz C0 hw hname
  generalize (va_A [(h_g, .inr (1, [.ref h_g_digits, .int g_count, .int g_scale])), (h_g_digits, .inl (cI, g_digits_n, .inl g_digits))] sz) = A at C0 hw ⊢
  have hl := lv_entry ([.ref h_g]) (n := 1) (Nat.le_of_ble_eq_true rfl)
  rw [lg_entry_eq]
  generalize (lg_sl ([.ref h_g]) ++ List.replicate (1 - (lg_sl ([.ref h_g])).length) Slot.unset).toArray = ls at hl ⊢
  have hl : lv_has ls 1 [(0, .ref h_g)] := hl
  obtain ⟨hx, hb, hr, hml, hown, hts, hlocks, hK, hZ, hA⟩ := id C0
  generalize s.heap = H at hw ⊢
  unfold f_Figures_lowestPower at hf
  refine lv_aload_n hx hb d_Figures_lowestPower_0 rfl (lv_at hl 0 rfl) ?_
  refine va_get (D := (dC, dI)) (ci := 1) (v := .int g_scale) (C := "DirectivePrinter$Figures") (T := T_Figures) (N := 3) hx hb hts (mm_up i_Figures) hown hK hw.1 0 rfl rfl 2 (by decide) (hts _ (List.mem_cons_of_mem _ q_178)) (fun _ h9 => h9) rfl d_Figures_lowestPower_1 ?_
  refine lv_ineg hx hb d_Figures_lowestPower_4 ?_
  obtain rfl := Option.some.inj hf
  exact mm_iret hx hb hr hlocks hK (mm_wsub hw [0, 1] (by decide) rfl rfl) rfl d_Figures_lowestPower_5
/-! DirectivePrinter$Figures.countUpFrom(I)V -/
def f_Figures_countUpFrom_6 (g_digits_n : Nat) : Nat → (Nat → Int32) → Int32 → Int32 → Option ((Nat → Int32) × Int32)
  | 0, _, _, _ => none
  | fu + 1, g_digits, g_count, x2 => (if (24 : Int32) ≤ x2 then some (g_digits, g_count) else (if x2 < 0 ∨ g_digits_n ≤ x2.toNatClampNeg then none else (if (9 : Int32) ≤ (g_digits x2.toNatClampNeg) then (if x2 < 0 ∨ g_digits_n ≤ x2.toNatClampNeg then none else f_Figures_countUpFrom_6 g_digits_n fu (upd g_digits x2.toNatClampNeg (0 : Int32)) g_count (x2 + (1 : Int32))) else (if x2 < 0 ∨ g_digits_n ≤ x2.toNatClampNeg then none else (if x2 < 0 ∨ g_digits_n ≤ x2.toNatClampNeg then none else some (upd g_digits x2.toNatClampNeg ((g_digits x2.toNatClampNeg) + (1 : Int32)), (if g_count < (x2 + (1 : Int32)) then (x2 + (1 : Int32)) else g_count)))))))
def f_Figures_countUpFrom (N : Nat) (g_digits_n : Nat) (g_digits : Nat → Int32) (g_count : Int32) (start : Int32) : Option ((Nat → Int32) × Int32) := f_Figures_countUpFrom_6 g_digits_n N g_digits g_count (if start < (0 : Int32) then (0 : Int32) else start)
abbrev r_Figures_countUpFrom : Room := { frames := 1, cells := 0, slots := 0, locals := 14 }
set_option maxHeartbeats 4000000 in
set_option maxRecDepth 100000 in
theorem b_Figures_countUpFrom_6 {h_g h_g_digits : Nat} (Zo : mm_Zx Z ad adK adV) (C0 : mm_cx (dC, dI) vwC (tyl cC cI cJ cQ) Z p s m args meth c b_Figures_countUpFrom 3 none "DirectivePrinter$Figures" w_Figures_countUpFrom A) (N : Nat) (g_digits_n : Nat) (g_scale : Int32) (start : Int32) (out : (Nat → Int32) × Int32) : ∀ (fuel : Nat) (g_digits : Nat → Int32) (g_count : Int32) (x2 : Int32), f_Figures_countUpFrom_6 g_digits_n fuel g_digits g_count x2 = some out → ∀ (H : Heap) (locs : List Loc), mm_w (dC, dI) vwC A s [(h_g, .inr (1, [.ref h_g_digits, .int g_count, .int g_scale])), (h_g_digits, .inl (cI, g_digits_n, .inl g_digits))] H locs → ∀ (ls : Array Slot), lv_has ls 3 [(0, .ref h_g), (2, .int x2)] → W p l e r_Figures_countUpFrom s m args below meth c H locs 0 0 (MQ below (mm_qv (dC, dI) vwC (tyl cC cI cJ cQ) A [(h_g, .inr (1, [.ref h_g_digits, .int out.2, .int g_scale])), (h_g_digits, .inl (cI, g_digits_n, .inl out.1))]) args s 0 0 A) (F0 m 6 ls []) := by
  obtain ⟨hx, hb, hr, hml, hown, hts, hlocks, hK, hZ, hA⟩ := id C0
  intro fuel
  induction fuel with
  | zero =>
    intro g_digits g_count x2 hf
    cases (show (none : Option ((Nat → Int32) × Int32)) = some out from hf)
  | succ fu ih =>
    intro g_digits g_count x2 hf H locs hw ls hl
    unfold f_Figures_countUpFrom_6 at hf
    refine lv_iload_n hx hb d_Figures_countUpFrom_6 rfl (lv_at hl 1 rfl) ?_
    refine lv_bipush (v := (24 : Int32)) hx hb d_Figures_countUpFrom_7 (by decide) ?_
    refine lv_icmp_ge (tgt := 61) hx hb d_Figures_countUpFrom_9 (by decide) (fun hc => ?_) (fun hc => ?_)
    · replace hf := mm_ip hc hf
      obtain rfl := Option.some.inj hf
      exact mm_vret hx hb hr hlocks hK (mm_wsub hw [0, 1] (by decide) rfl rfl) d_Figures_countUpFrom_61
    · replace hf := mm_in hc hf
      refine lv_aload_n hx hb d_Figures_countUpFrom_12 rfl (lv_at hl 0 rfl) ?_
      refine va_get (D := (dC, dI)) (ci := 1) (v := .ref h_g_digits) (C := "DirectivePrinter$Figures") (T := T_Figures) (N := 3) hx hb hts (mm_up i_Figures) hown hK hw.1 0 rfl rfl 0 (by decide) (hts _ (List.mem_cons_of_mem _ q_176)) (fun _ h9 => h9) rfl d_Figures_countUpFrom_13 ?_
      refine lv_iload_n hx hb d_Figures_countUpFrom_16 rfl (lv_at hl 1 rfl) ?_
      obtain ⟨hz, hf⟩ := mm_grd hf
      refine va_iald hx hb hK hw.1 1 1 rfl rfl hz d_Figures_countUpFrom_17 ?_
      refine lv_bipush (v := (9 : Int32)) hx hb d_Figures_countUpFrom_18 (by decide) ?_
      refine lv_icmp_ge (tgt := 48) hx hb d_Figures_countUpFrom_20 (by decide) (fun hc => ?_) (fun hc => ?_)
      · replace hf := mm_ip hc hf
        refine lv_aload_n hx hb d_Figures_countUpFrom_48 rfl (lv_at hl 0 rfl) ?_
        refine va_get (D := (dC, dI)) (ci := 1) (v := .ref h_g_digits) (C := "DirectivePrinter$Figures") (T := T_Figures) (N := 3) hx hb hts (mm_up i_Figures) hown hK hw.1 0 rfl rfl 0 (by decide) (hts _ (List.mem_cons_of_mem _ q_176)) (fun _ h9 => h9) rfl d_Figures_countUpFrom_49 ?_
        refine lv_iload_n hx hb d_Figures_countUpFrom_52 rfl (lv_at hl 1 rfl) ?_
        refine lv_iconst (v := (0 : Int32)) hx hb d_Figures_countUpFrom_53 (by decide) ?_
        obtain ⟨hz, hf⟩ := mm_grd hf
        refine va_iast hx hb hK hw.1 hw.2.1 hw.2.2 1 1 rfl rfl hz d_Figures_countUpFrom_54 (fun H locs hP hD hS => ?_)
        have hw : mm_w (dC, dI) vwC A s [(h_g, .inr (1, [.ref h_g_digits, .int g_count, .int g_scale])), (h_g_digits, .inl (cI, g_digits_n, .inl (upd g_digits x2.toNatClampNeg (0 : Int32))))] H locs := ⟨hP, hD, hS⟩
        refine lv_iinc (v := x2 + (1 : Int32)) (lv' := [(2, .int (x2 + (1 : Int32))), (0, .ref h_g)]) hx hb d_Figures_countUpFrom_55 hl (k := 1) rfl rfl (by decide) rfl (fun ls hl => ?_)
        refine lv_goto (tgt := 6) hx hb d_Figures_countUpFrom_58 (by decide) ?_
        exact ih (upd g_digits x2.toNatClampNeg (0 : Int32)) g_count (x2 + (1 : Int32)) hf _ _ hw _ (lv_sub hl [1, 0] rfl)
      · replace hf := mm_in hc hf
        refine lv_aload_n hx hb d_Figures_countUpFrom_23 rfl (lv_at hl 0 rfl) ?_
        refine va_get (D := (dC, dI)) (ci := 1) (v := .ref h_g_digits) (C := "DirectivePrinter$Figures") (T := T_Figures) (N := 3) hx hb hts (mm_up i_Figures) hown hK hw.1 0 rfl rfl 0 (by decide) (hts _ (List.mem_cons_of_mem _ q_176)) (fun _ h9 => h9) rfl d_Figures_countUpFrom_24 ?_
        refine lv_iload_n hx hb d_Figures_countUpFrom_27 rfl (lv_at hl 1 rfl) ?_
        refine lv_dup2_11 hx hb d_Figures_countUpFrom_28 rfl rfl ?_
        obtain ⟨hz, hf⟩ := mm_grd hf
        refine va_iald hx hb hK hw.1 1 1 rfl rfl hz d_Figures_countUpFrom_29 ?_
        refine lv_iconst (v := (1 : Int32)) hx hb d_Figures_countUpFrom_30 (by decide) ?_
        refine lv_iadd hx hb d_Figures_countUpFrom_31 ?_
        obtain ⟨hz, hf⟩ := mm_grd hf
        refine va_iast hx hb hK hw.1 hw.2.1 hw.2.2 1 1 rfl rfl hz d_Figures_countUpFrom_32 (fun H locs hP hD hS => ?_)
        have hw : mm_w (dC, dI) vwC A s [(h_g, .inr (1, [.ref h_g_digits, .int g_count, .int g_scale])), (h_g_digits, .inl (cI, g_digits_n, .inl (upd g_digits x2.toNatClampNeg ((g_digits x2.toNatClampNeg) + (1 : Int32)))))] H locs := ⟨hP, hD, hS⟩
        refine lv_aload_n hx hb d_Figures_countUpFrom_33 rfl (lv_at hl 0 rfl) ?_
        refine lv_aload_n hx hb d_Figures_countUpFrom_34 rfl (lv_at hl 0 rfl) ?_
        refine va_get (D := (dC, dI)) (ci := 1) (v := .int g_count) (C := "DirectivePrinter$Figures") (T := T_Figures) (N := 3) hx hb hts (mm_up i_Figures) hown hK hw.1 0 rfl rfl 1 (by decide) (hts _ (List.mem_cons_of_mem _ q_177)) (fun _ h9 => h9) rfl d_Figures_countUpFrom_35 ?_
        refine lv_iload_n hx hb d_Figures_countUpFrom_38 rfl (lv_at hl 1 rfl) ?_
        refine lv_iconst (v := (1 : Int32)) hx hb d_Figures_countUpFrom_39 (by decide) ?_
        refine lv_iadd hx hb d_Figures_countUpFrom_40 ?_
        refine va_mmax hx hb (hml.trans hl.1.symm) hown (hts _ (List.mem_cons_of_mem _ q_589)) (hts _ (List.mem_cons_of_mem _ q_89)) (hts _ (List.mem_cons_of_mem _ q_56)) (hts _ (List.mem_cons_of_mem _ q_90)) (Nat.le_of_ble_eq_true rfl) (Nat.le_of_ble_eq_true rfl) (Nat.zero_le _) (Nat.zero_le _) d_Figures_countUpFrom_41 ?_
        refine va_put (D := (dC, dI)) (ci := 1) (v := .int (if g_count < (x2 + (1 : Int32)) then (x2 + (1 : Int32)) else g_count)) (ty := .int) (C := "DirectivePrinter$Figures") (T := T_Figures) (N := 3) hx hb hts (mm_up i_Figures) t_Figures t_Figures_ok n_Figures hown hK hw.1 hw.2.1 hw.2.2 0 rfl rfl 1 (by decide) (hts _ (List.mem_cons_of_mem _ q_177)) (fun _ h9 => h9) rfl (by decide +kernel) rfl rfl (Nat.le_of_ble_eq_true rfl) d_Figures_countUpFrom_44 (fun H locs hP hD hS => ?_)
        have hw : mm_w (dC, dI) vwC A s [(h_g, .inr (1, [.ref h_g_digits, .int (if g_count < (x2 + (1 : Int32)) then (x2 + (1 : Int32)) else g_count), .int g_scale])), (h_g_digits, .inl (cI, g_digits_n, .inl (upd g_digits x2.toNatClampNeg ((g_digits x2.toNatClampNeg) + (1 : Int32)))))] H locs := ⟨hP, hD, hS⟩
        obtain rfl := Option.some.inj hf
        exact mm_vret hx hb hr hlocks hK (mm_wsub hw [0, 1] (by decide) rfl rfl) d_Figures_countUpFrom_47
set_option maxHeartbeats 4000000 in
set_option maxRecDepth 100000 in
theorem c_Figures_countUpFrom (l : Launch) {Z : (Nat → Prop) → State → Heap → Prop} {ad adK adV : Nat → Nat} (Zo : mm_Zx Z ad adK adV) (dC : Nat → ClassId) (dI : Nat → Nat → Nat) (cC cI cJ cQ : ClassId) (N : Nat) (g_digits_n : Nat) (g_digits : Nat → Int32) (g_count : Int32) (g_scale : Int32) (start : Int32) (h_g h_g_digits : Nat) (sz : Nat) (out : (Nat → Int32) × Int32) (hf : f_Figures_countUpFrom N g_digits_n g_digits g_count start = some out) : Met l y_Figures_countUpFrom w_Figures_countUpFrom r_Figures_countUpFrom (mm_pre (dC, dI) vwC (tyl cC cI cJ cQ) Z [(h_g, .inr (1, [.ref h_g_digits, .int g_count, .int g_scale])), (h_g_digits, .inl (cI, g_digits_n, .inl g_digits))] sz [.ref h_g, .int start]) (mm_qv (dC, dI) vwC (tyl cC cI cJ cQ) (va_A [(h_g, .inr (1, [.ref h_g_digits, .int g_count, .int g_scale])), (h_g_digits, .inl (cI, g_digits_n, .inl g_digits))] sz) [(h_g, .inr (1, [.ref h_g_digits, .int out.2, .int g_scale])), (h_g_digits, .inl (cI, g_digits_n, .inl out.1))]) 0 0 (va_A [(h_g, .inr (1, [.ref h_g_digits, .int g_count, .int g_scale])), (h_g_digits, .inl (cI, g_digits_n, .inl g_digits))] sz) := by
  refine mm_of (own := "DirectivePrinter$Figures") (cc := b_Figures_countUpFrom) (maxL := 3) (ret := none) (by decide) rfl rfl ?_
  intro p e s m below meth c hsz C0 hw hname
  generalize (va_A [(h_g, .inr (1, [.ref h_g_digits, .int g_count, .int g_scale])), (h_g_digits, .inl (cI, g_digits_n, .inl g_digits))] sz) = A at C0 hw ⊢
  have hl := lv_entry ([.ref h_g, .int start]) (n := 3) (Nat.le_of_ble_eq_true rfl)
  rw [lg_entry_eq]
  generalize (lg_sl ([.ref h_g, .int start]) ++ List.replicate (3 - (lg_sl ([.ref h_g, .int start])).length) Slot.unset).toArray = ls at hl ⊢
  have hl : lv_has ls 3 [(0, .ref h_g), (1, .int start)] := hl
  obtain ⟨hx, hb, hr, hml, hown, hts, hlocks, hK, hZ, hA⟩ := id C0
  generalize s.heap = H at hw ⊢
  unfold f_Figures_countUpFrom at hf
  refine lv_iload_n hx hb d_Figures_countUpFrom_0 rfl (lv_at hl 1 rfl) ?_
  refine lv_iconst (v := (0 : Int32)) hx hb d_Figures_countUpFrom_1 (by decide) ?_
  refine va_mmax hx hb (hml.trans hl.1.symm) hown (hts _ (List.mem_cons_of_mem _ q_589)) (hts _ (List.mem_cons_of_mem _ q_89)) (hts _ (List.mem_cons_of_mem _ q_56)) (hts _ (List.mem_cons_of_mem _ q_90)) (Nat.le_of_ble_eq_true rfl) (Nat.le_of_ble_eq_true rfl) (Nat.zero_le _) (Nat.zero_le _) d_Figures_countUpFrom_2 ?_
  refine lv_istore_n (lv' := [(2, .int (if start < (0 : Int32) then (0 : Int32) else start)), (0, .ref h_g), (1, .int start)]) hx hb d_Figures_countUpFrom_5 rfl hl (by decide) rfl (fun ls hl => ?_)
  exact b_Figures_countUpFrom_6 Zo C0 N g_digits_n g_scale start  out N g_digits g_count (if start < (0 : Int32) then (0 : Int32) else start) hf _ _ hw _ (lv_sub hl [1, 0] rfl)
/-! DirectivePrinter$Figures.roundTo(I)V -/
def f_Figures_roundTo_55 (N : Nat) (g_digits_n : Nat) : Nat → (Nat → Int32) → Int32 → Int32 → Int32 → Int32 → Int32 → Option ((Nat → Int32) × Int32)
  | 0, _, _, _, _, _, _ => none
  | fu + 1, g_digits, g_count, x2, x3, x4, x5 => (if x4 ≤ x5 then (if x3 = 0 then (if x2 < g_count then some (g_digits, g_count) else some (g_digits, (0 : Int32))) else mm_b2 (f_Figures_countUpFrom N g_digits_n g_digits g_count x2) (fun o_1 o_2 => some (o_1, o_2))) else (if x5 < 0 ∨ g_digits_n ≤ x5.toNatClampNeg then none else f_Figures_roundTo_55 N g_digits_n fu (upd g_digits x5.toNatClampNeg (0 : Int32)) g_count x2 x3 x4 (x5 + (1 : Int32))))
def f_Figures_roundTo_43 (N : Nat) (g_digits_n : Nat) (g_digits : Nat → Int32) (g_count : Int32) (x2 : Int32) (y0 : Int32) : Option ((Nat → Int32) × Int32) := f_Figures_roundTo_55 N g_digits_n N g_digits g_count x2 y0 (if (24 : Int32) < x2 then (24 : Int32) else x2) (0 : Int32)
def f_Figures_roundTo_42 (N : Nat) (g_digits_n : Nat) (g_digits : Nat → Int32) (g_count : Int32) (x2 : Int32) : Option ((Nat → Int32) × Int32) := f_Figures_roundTo_43 N g_digits_n g_digits g_count x2 (0 : Int32)
def f_Figures_roundTo (N : Nat) (g_digits_n : Nat) (g_digits : Nat → Int32) (g_count : Int32) (g_scale : Int32) (power : Int32) : Option ((Nat → Int32) × Int32) := (if 0 < (power + g_scale) then (if g_count < (power + g_scale) then f_Figures_roundTo_42 N g_digits_n g_digits g_count (power + g_scale) else (if (24 : Int32) < (power + g_scale) then f_Figures_roundTo_42 N g_digits_n g_digits g_count (power + g_scale) else (if ((power + g_scale) - (1 : Int32)) < 0 ∨ g_digits_n ≤ ((power + g_scale) - (1 : Int32)).toNatClampNeg then none else (if (g_digits ((power + g_scale) - (1 : Int32)).toNatClampNeg) < (5 : Int32) then f_Figures_roundTo_42 N g_digits_n g_digits g_count (power + g_scale) else f_Figures_roundTo_43 N g_digits_n g_digits g_count (power + g_scale) (1 : Int32))))) else some (g_digits, g_count))
abbrev r_Figures_roundTo : Room := { frames := 2, cells := 0, slots := 0, locals := 36 }
set_option maxHeartbeats 4000000 in
set_option maxRecDepth 100000 in
theorem b_Figures_roundTo_55 {h_g h_g_digits : Nat} (Zo : mm_Zx Z ad adK adV) (C0 : mm_cx (dC, dI) vwC (tyl cC cI cJ cQ) Z p s m args meth c b_Figures_roundTo 6 none "DirectivePrinter$Figures" w_Figures_roundTo A) (N : Nat) (g_digits_n : Nat) (g_scale : Int32) (power : Int32) (out : (Nat → Int32) × Int32) : ∀ (fuel : Nat) (g_digits : Nat → Int32) (g_count : Int32) (x2 : Int32) (x3 : Int32) (x4 : Int32) (x5 : Int32), f_Figures_roundTo_55 N g_digits_n fuel g_digits g_count x2 x3 x4 x5 = some out → ∀ (H : Heap) (locs : List Loc), mm_w (dC, dI) vwC A s [(h_g, .inr (1, [.ref h_g_digits, .int g_count, .int g_scale])), (h_g_digits, .inl (cI, g_digits_n, .inl g_digits))] H locs → ∀ (ls : Array Slot), lv_has ls 6 [(0, .ref h_g), (2, .int x2), (3, .int x3), (4, .int x4), (5, .int x5)] → W p l e r_Figures_roundTo s m args below meth c H locs 0 0 (MQ below (mm_qv (dC, dI) vwC (tyl cC cI cJ cQ) A [(h_g, .inr (1, [.ref h_g_digits, .int out.2, .int g_scale])), (h_g_digits, .inl (cI, g_digits_n, .inl out.1))]) args s 0 0 A) (F0 m 55 ls []) := by
  obtain ⟨hx, hb, hr, hml, hown, hts, hlocks, hK, hZ, hA⟩ := id C0
  intro fuel
  induction fuel with
  | zero =>
    intro g_digits g_count x2 x3 x4 x5 hf
    cases (show (none : Option ((Nat → Int32) × Int32)) = some out from hf)
  | succ fu ih =>
    intro g_digits g_count x2 x3 x4 x5 hf H locs hw ls hl
    unfold f_Figures_roundTo_55 at hf
    refine lv_iload hx hb d_Figures_roundTo_55 (lv_at hl 4 rfl) ?_
    refine lv_iload hx hb d_Figures_roundTo_57 (lv_at hl 3 rfl) ?_
    refine lv_icmp_ge (tgt := 76) hx hb d_Figures_roundTo_59 (by decide) (fun hc => ?_) (fun hc => ?_)
    · replace hf := mm_ip hc hf
      refine lv_iload_n hx hb d_Figures_roundTo_76 rfl (lv_at hl 2 rfl) ?_
      refine lv_if_eq (tgt := 88) hx hb d_Figures_roundTo_77 (by decide) (fun hc => ?_) (fun hc => ?_)
      · replace hf := mm_ip hc hf
        refine lv_iload_n hx hb d_Figures_roundTo_88 rfl (lv_at hl 1 rfl) ?_
        refine lv_aload_n hx hb d_Figures_roundTo_89 rfl (lv_at hl 0 rfl) ?_
        refine va_get (D := (dC, dI)) (ci := 1) (v := .int g_count) (C := "DirectivePrinter$Figures") (T := T_Figures) (N := 3) hx hb hts (mm_up i_Figures) hown hK hw.1 0 rfl rfl 1 (by decide) (hts _ (List.mem_cons_of_mem _ q_177)) (fun _ h9 => h9) rfl d_Figures_roundTo_90 ?_
        refine lv_icmp_lt (tgt := 101) hx hb d_Figures_roundTo_93 (by decide) (fun hc => ?_) (fun hc => ?_)
        · replace hf := mm_ip hc hf
          obtain rfl := Option.some.inj hf
          exact mm_vret hx hb hr hlocks hK (mm_wsub hw [0, 1] (by decide) rfl rfl) d_Figures_roundTo_101
        · replace hf := mm_in hc hf
          refine lv_aload_n hx hb d_Figures_roundTo_96 rfl (lv_at hl 0 rfl) ?_
          refine lv_iconst (v := (0 : Int32)) hx hb d_Figures_roundTo_97 (by decide) ?_
          refine va_put (D := (dC, dI)) (ci := 1) (v := .int (0 : Int32)) (ty := .int) (C := "DirectivePrinter$Figures") (T := T_Figures) (N := 3) hx hb hts (mm_up i_Figures) t_Figures t_Figures_ok n_Figures hown hK hw.1 hw.2.1 hw.2.2 0 rfl rfl 1 (by decide) (hts _ (List.mem_cons_of_mem _ q_177)) (fun _ h9 => h9) rfl (by decide +kernel) rfl rfl (Nat.le_of_ble_eq_true rfl) d_Figures_roundTo_98 (fun H locs hP hD hS => ?_)
          have hw : mm_w (dC, dI) vwC A s [(h_g, .inr (1, [.ref h_g_digits, .int (0 : Int32), .int g_scale])), (h_g_digits, .inl (cI, g_digits_n, .inl g_digits))] H locs := ⟨hP, hD, hS⟩
          obtain rfl := Option.some.inj hf
          exact mm_vret hx hb hr hlocks hK (mm_wsub hw [0, 1] (by decide) rfl rfl) d_Figures_roundTo_101
      · replace hf := mm_in hc hf
        refine lv_aload_n hx hb d_Figures_roundTo_80 rfl (lv_at hl 0 rfl) ?_
        refine lv_iload_n hx hb d_Figures_roundTo_81 rfl (lv_at hl 1 rfl) ?_
        obtain ⟨o_1, o_2, hu, hf⟩ := mm_b2_ok hf
        refine mm_cv (wr := []) (va_runV (As := [.int x2]) (rest := []) ⟨hx, hb, hml, hown, hts⟩ (c_Figures_countUpFrom l Zo dC dI cC cI cJ cQ N g_digits_n g_digits g_count g_scale x2 h_g h_g_digits H.size (o_1, o_2) hu) (cwV 1 hts (mm_gV q_585 q_587 q_20 q_62 q_588) rfl rfl rfl (by decide +kernel) ⟨Nat.le_of_ble_eq_true rfl, Nat.le_of_ble_eq_true rfl⟩) (mm_pv Zo.1 hK hw hZ hA [0, 1] (by decide) rfl rfl (ci := 1) (q0 := 0) rfl rfl) rfl rfl hl.1 rfl (lv_room (Nat.le_of_ble_eq_true rfl)) d_Figures_roundTo_82 ⟨Nat.le_refl _, Nat.le_refl _⟩) hw hA [0, 1] [] rfl rfl (by decide) (by decide) (fun H locs hw => ?_)
        have hw : mm_w (dC, dI) vwC A s [(h_g, .inr (1, [.ref h_g_digits, .int o_2, .int g_scale])), (h_g_digits, .inl (cI, g_digits_n, .inl o_1))] H locs := hw
        refine lv_goto (tgt := 101) hx hb d_Figures_roundTo_85 (by decide) ?_
        obtain rfl := Option.some.inj hf
        exact mm_vret hx hb hr hlocks hK (mm_wsub hw [0, 1] (by decide) rfl rfl) d_Figures_roundTo_101
    · replace hf := mm_in hc hf
      refine lv_aload_n hx hb d_Figures_roundTo_62 rfl (lv_at hl 0 rfl) ?_
      refine va_get (D := (dC, dI)) (ci := 1) (v := .ref h_g_digits) (C := "DirectivePrinter$Figures") (T := T_Figures) (N := 3) hx hb hts (mm_up i_Figures) hown hK hw.1 0 rfl rfl 0 (by decide) (hts _ (List.mem_cons_of_mem _ q_176)) (fun _ h9 => h9) rfl d_Figures_roundTo_63 ?_
      refine lv_iload hx hb d_Figures_roundTo_66 (lv_at hl 4 rfl) ?_
      refine lv_iconst (v := (0 : Int32)) hx hb d_Figures_roundTo_68 (by decide) ?_
      obtain ⟨hz, hf⟩ := mm_grd hf
      refine va_iast hx hb hK hw.1 hw.2.1 hw.2.2 1 1 rfl rfl hz d_Figures_roundTo_69 (fun H locs hP hD hS => ?_)
      have hw : mm_w (dC, dI) vwC A s [(h_g, .inr (1, [.ref h_g_digits, .int g_count, .int g_scale])), (h_g_digits, .inl (cI, g_digits_n, .inl (upd g_digits x5.toNatClampNeg (0 : Int32))))] H locs := ⟨hP, hD, hS⟩
      refine lv_iinc (v := x5 + (1 : Int32)) (lv' := [(5, .int (x5 + (1 : Int32))), (0, .ref h_g), (2, .int x2), (3, .int x3), (4, .int x4)]) hx hb d_Figures_roundTo_70 hl (k := 4) rfl rfl (by decide) rfl (fun ls hl => ?_)
      refine lv_goto (tgt := 55) hx hb d_Figures_roundTo_73 (by decide) ?_
      exact ih (upd g_digits x5.toNatClampNeg (0 : Int32)) g_count x2 x3 x4 (x5 + (1 : Int32)) hf _ _ hw _ (lv_sub hl [1, 2, 3, 4, 0] rfl)
set_option maxHeartbeats 4000000 in
set_option maxRecDepth 100000 in
theorem b_Figures_roundTo_43 {h_g h_g_digits : Nat} (Zo : mm_Zx Z ad adK adV) (C0 : mm_cx (dC, dI) vwC (tyl cC cI cJ cQ) Z p s m args meth c b_Figures_roundTo 6 none "DirectivePrinter$Figures" w_Figures_roundTo A) (N : Nat) (g_digits_n : Nat) (g_scale : Int32) (power : Int32) (out : (Nat → Int32) × Int32) : ∀ (g_digits : Nat → Int32) (g_count : Int32) (x2 : Int32) (y0 : Int32), f_Figures_roundTo_43 N g_digits_n g_digits g_count x2 y0 = some out → ∀ (H : Heap) (locs : List Loc), mm_w (dC, dI) vwC A s [(h_g, .inr (1, [.ref h_g_digits, .int g_count, .int g_scale])), (h_g_digits, .inl (cI, g_digits_n, .inl g_digits))] H locs → ∀ (ls : Array Slot), lv_has ls 6 [(0, .ref h_g), (2, .int x2)] → W p l e r_Figures_roundTo s m args below meth c H locs 0 0 (MQ below (mm_qv (dC, dI) vwC (tyl cC cI cJ cQ) A [(h_g, .inr (1, [.ref h_g_digits, .int out.2, .int g_scale])), (h_g_digits, .inl (cI, g_digits_n, .inl out.1))]) args s 0 0 A) (F0 m 43 ls [.int y0]) := by
  obtain ⟨hx, hb, hr, hml, hown, hts, hlocks, hK, hZ, hA⟩ := id C0
  intro g_digits g_count x2 y0 hf H locs hw ls hl
  unfold f_Figures_roundTo_43 at hf
  refine lv_istore_n (lv' := [(3, .int y0), (0, .ref h_g), (2, .int x2)]) hx hb d_Figures_roundTo_43 rfl hl (by decide) rfl (fun ls hl => ?_)
  refine lv_iload_n hx hb d_Figures_roundTo_44 rfl (lv_at hl 2 rfl) ?_
  refine lv_bipush (v := (24 : Int32)) hx hb d_Figures_roundTo_45 (by decide) ?_
  refine va_mmin hx hb (hml.trans hl.1.symm) hown (hts _ (List.mem_cons_of_mem _ q_584)) (hts _ (List.mem_cons_of_mem _ q_300)) (hts _ (List.mem_cons_of_mem _ q_56)) (hts _ (List.mem_cons_of_mem _ q_301)) (Nat.le_of_ble_eq_true rfl) (Nat.le_of_ble_eq_true rfl) (Nat.zero_le _) (Nat.zero_le _) d_Figures_roundTo_47 ?_
  refine lv_istore (lv' := [(4, .int (if (24 : Int32) < x2 then (24 : Int32) else x2)), (3, .int y0), (0, .ref h_g), (2, .int x2)]) hx hb d_Figures_roundTo_50 hl (by decide) rfl (fun ls hl => ?_)
  refine lv_iconst (v := (0 : Int32)) hx hb d_Figures_roundTo_52 (by decide) ?_
  refine lv_istore (lv' := [(5, .int (0 : Int32)), (4, .int (if (24 : Int32) < x2 then (24 : Int32) else x2)), (3, .int y0), (0, .ref h_g), (2, .int x2)]) hx hb d_Figures_roundTo_53 hl (by decide) rfl (fun ls hl => ?_)
  exact b_Figures_roundTo_55 Zo C0 N g_digits_n g_scale power  out N g_digits g_count x2 y0 (if (24 : Int32) < x2 then (24 : Int32) else x2) (0 : Int32) hf _ _ hw _ (lv_sub hl [3, 4, 2, 1, 0] rfl)
set_option maxHeartbeats 4000000 in
set_option maxRecDepth 100000 in
theorem b_Figures_roundTo_42 {h_g h_g_digits : Nat} (Zo : mm_Zx Z ad adK adV) (C0 : mm_cx (dC, dI) vwC (tyl cC cI cJ cQ) Z p s m args meth c b_Figures_roundTo 6 none "DirectivePrinter$Figures" w_Figures_roundTo A) (N : Nat) (g_digits_n : Nat) (g_scale : Int32) (power : Int32) (out : (Nat → Int32) × Int32) : ∀ (g_digits : Nat → Int32) (g_count : Int32) (x2 : Int32), f_Figures_roundTo_42 N g_digits_n g_digits g_count x2 = some out → ∀ (H : Heap) (locs : List Loc), mm_w (dC, dI) vwC A s [(h_g, .inr (1, [.ref h_g_digits, .int g_count, .int g_scale])), (h_g_digits, .inl (cI, g_digits_n, .inl g_digits))] H locs → ∀ (ls : Array Slot), lv_has ls 6 [(0, .ref h_g), (2, .int x2)] → W p l e r_Figures_roundTo s m args below meth c H locs 0 0 (MQ below (mm_qv (dC, dI) vwC (tyl cC cI cJ cQ) A [(h_g, .inr (1, [.ref h_g_digits, .int out.2, .int g_scale])), (h_g_digits, .inl (cI, g_digits_n, .inl out.1))]) args s 0 0 A) (F0 m 42 ls []) := by
  obtain ⟨hx, hb, hr, hml, hown, hts, hlocks, hK, hZ, hA⟩ := id C0
  intro g_digits g_count x2 hf H locs hw ls hl
  unfold f_Figures_roundTo_42 at hf
  refine lv_iconst (v := (0 : Int32)) hx hb d_Figures_roundTo_42 (by decide) ?_
  exact b_Figures_roundTo_43 Zo C0 N g_digits_n g_scale power  out g_digits g_count x2 (0 : Int32) hf _ _ hw _ hl
set_option maxHeartbeats 4000000 in
set_option maxRecDepth 100000 in
theorem c_Figures_roundTo (l : Launch) {Z : (Nat → Prop) → State → Heap → Prop} {ad adK adV : Nat → Nat} (Zo : mm_Zx Z ad adK adV) (dC : Nat → ClassId) (dI : Nat → Nat → Nat) (cC cI cJ cQ : ClassId) (N : Nat) (g_digits_n : Nat) (g_digits : Nat → Int32) (g_count : Int32) (g_scale : Int32) (power : Int32) (h_g h_g_digits : Nat) (sz : Nat) (out : (Nat → Int32) × Int32) (hf : f_Figures_roundTo N g_digits_n g_digits g_count g_scale power = some out) : Met l y_Figures_roundTo w_Figures_roundTo r_Figures_roundTo (mm_pre (dC, dI) vwC (tyl cC cI cJ cQ) Z [(h_g, .inr (1, [.ref h_g_digits, .int g_count, .int g_scale])), (h_g_digits, .inl (cI, g_digits_n, .inl g_digits))] sz [.ref h_g, .int power]) (mm_qv (dC, dI) vwC (tyl cC cI cJ cQ) (va_A [(h_g, .inr (1, [.ref h_g_digits, .int g_count, .int g_scale])), (h_g_digits, .inl (cI, g_digits_n, .inl g_digits))] sz) [(h_g, .inr (1, [.ref h_g_digits, .int out.2, .int g_scale])), (h_g_digits, .inl (cI, g_digits_n, .inl out.1))]) 0 0 (va_A [(h_g, .inr (1, [.ref h_g_digits, .int g_count, .int g_scale])), (h_g_digits, .inl (cI, g_digits_n, .inl g_digits))] sz) := by
  refine mm_of (own := "DirectivePrinter$Figures") (cc := b_Figures_roundTo) (maxL := 6) (ret := none) (by decide) rfl rfl ?_
  intro p e s m below meth c hsz C0 hw hname
  generalize (va_A [(h_g, .inr (1, [.ref h_g_digits, .int g_count, .int g_scale])), (h_g_digits, .inl (cI, g_digits_n, .inl g_digits))] sz) = A at C0 hw ⊢
  have hl := lv_entry ([.ref h_g, .int power]) (n := 6) (Nat.le_of_ble_eq_true rfl)
  rw [lg_entry_eq]
  generalize (lg_sl ([.ref h_g, .int power]) ++ List.replicate (6 - (lg_sl ([.ref h_g, .int power])).length) Slot.unset).toArray = ls at hl ⊢
  have hl : lv_has ls 6 [(0, .ref h_g), (1, .int power)] := hl
  obtain ⟨hx, hb, hr, hml, hown, hts, hlocks, hK, hZ, hA⟩ := id C0
  generalize s.heap = H at hw ⊢
  unfold f_Figures_roundTo at hf
  refine lv_iload_n hx hb d_Figures_roundTo_0 rfl (lv_at hl 1 rfl) ?_
  refine lv_aload_n hx hb d_Figures_roundTo_1 rfl (lv_at hl 0 rfl) ?_
  refine va_get (D := (dC, dI)) (ci := 1) (v := .int g_scale) (C := "DirectivePrinter$Figures") (T := T_Figures) (N := 3) hx hb hts (mm_up i_Figures) hown hK hw.1 0 rfl rfl 2 (by decide) (hts _ (List.mem_cons_of_mem _ q_178)) (fun _ h9 => h9) rfl d_Figures_roundTo_2 ?_
  refine lv_iadd hx hb d_Figures_roundTo_5 ?_
  refine lv_istore_n (lv' := [(2, .int (power + g_scale)), (0, .ref h_g), (1, .int power)]) hx hb d_Figures_roundTo_6 rfl hl (by decide) rfl (fun ls hl => ?_)
  refine lv_iload_n hx hb d_Figures_roundTo_7 rfl (lv_at hl 0 rfl) ?_
  refine lv_if_gt (tgt := 12) hx hb d_Figures_roundTo_8 (by decide) (fun hc => ?_) (fun hc => ?_)
  · replace hf := mm_ip hc hf
    refine lv_iload_n hx hb d_Figures_roundTo_12 rfl (lv_at hl 0 rfl) ?_
    refine lv_aload_n hx hb d_Figures_roundTo_13 rfl (lv_at hl 1 rfl) ?_
    refine va_get (D := (dC, dI)) (ci := 1) (v := .int g_count) (C := "DirectivePrinter$Figures") (T := T_Figures) (N := 3) hx hb hts (mm_up i_Figures) hown hK hw.1 0 rfl rfl 1 (by decide) (hts _ (List.mem_cons_of_mem _ q_177)) (fun _ h9 => h9) rfl d_Figures_roundTo_14 ?_
    refine lv_icmp_gt (tgt := 42) hx hb d_Figures_roundTo_17 (by decide) (fun hc => ?_) (fun hc => ?_)
    · replace hf := mm_ip hc hf
      exact b_Figures_roundTo_42 Zo C0 N g_digits_n g_scale power  out g_digits g_count (power + g_scale) hf _ _ hw _ (lv_sub hl [1, 0] rfl)
    · replace hf := mm_in hc hf
      refine lv_iload_n hx hb d_Figures_roundTo_20 rfl (lv_at hl 0 rfl) ?_
      refine lv_bipush (v := (24 : Int32)) hx hb d_Figures_roundTo_21 (by decide) ?_
      refine lv_icmp_gt (tgt := 42) hx hb d_Figures_roundTo_23 (by decide) (fun hc => ?_) (fun hc => ?_)
      · replace hf := mm_ip hc hf
        exact b_Figures_roundTo_42 Zo C0 N g_digits_n g_scale power  out g_digits g_count (power + g_scale) hf _ _ hw _ (lv_sub hl [1, 0] rfl)
      · replace hf := mm_in hc hf
        refine lv_aload_n hx hb d_Figures_roundTo_26 rfl (lv_at hl 1 rfl) ?_
        refine va_get (D := (dC, dI)) (ci := 1) (v := .ref h_g_digits) (C := "DirectivePrinter$Figures") (T := T_Figures) (N := 3) hx hb hts (mm_up i_Figures) hown hK hw.1 0 rfl rfl 0 (by decide) (hts _ (List.mem_cons_of_mem _ q_176)) (fun _ h9 => h9) rfl d_Figures_roundTo_27 ?_
        refine lv_iload_n hx hb d_Figures_roundTo_30 rfl (lv_at hl 0 rfl) ?_
        refine lv_iconst (v := (1 : Int32)) hx hb d_Figures_roundTo_31 (by decide) ?_
        refine lv_isub hx hb d_Figures_roundTo_32 ?_
        obtain ⟨hz, hf⟩ := mm_grd hf
        refine va_iald hx hb hK hw.1 1 1 rfl rfl hz d_Figures_roundTo_33 ?_
        refine lv_iconst (v := (5 : Int32)) hx hb d_Figures_roundTo_34 (by decide) ?_
        refine lv_icmp_lt (tgt := 42) hx hb d_Figures_roundTo_35 (by decide) (fun hc => ?_) (fun hc => ?_)
        · replace hf := mm_ip hc hf
          exact b_Figures_roundTo_42 Zo C0 N g_digits_n g_scale power  out g_digits g_count (power + g_scale) hf _ _ hw _ (lv_sub hl [1, 0] rfl)
        · replace hf := mm_in hc hf
          refine lv_iconst (v := (1 : Int32)) hx hb d_Figures_roundTo_38 (by decide) ?_
          refine lv_goto (tgt := 43) hx hb d_Figures_roundTo_39 (by decide) ?_
          exact b_Figures_roundTo_43 Zo C0 N g_digits_n g_scale power  out g_digits g_count (power + g_scale) (1 : Int32) hf _ _ hw _ (lv_sub hl [1, 0] rfl)
  · replace hf := mm_in hc hf
    obtain rfl := Option.some.inj hf
    exact mm_vret hx hb hr hlocks hK (mm_wsub hw [0, 1] (by decide) rfl rfl) d_Figures_roundTo_11
end
