section
variable {p : Program} {l : Launch} {e : Env} {s : State} {m : MethodId} {args : Array Value} {below : List Frame} {meth : Method} {c : Code} {dC : Nat → ClassId} {dI : Nat → Nat → Nat} {cC cI cJ cQ : ClassId} {A : Nat → Prop} {Z : (Nat → Prop) → State → Heap → Prop} {ad adK adV : Nat → Nat}
abbrev b_Row_addWord : ByteArray := prog_7_method_5_code
abbrev y_Row_addWord : MethodName := ⟨"DirectivePrinter$Row", "addWord", "(Ljava/lang/String;)V"⟩
def w_Row_addWord : List Cond := .code y_Row_addWord b_Row_addWord 3 none :: lw_g
theorem d_Row_addWord_0 : decode b_Row_addWord 0 = .ok (.iconst 0, 1) := by decide +kernel
theorem d_Row_addWord_1 : decode b_Row_addWord 1 = .ok (.istore_n 2, 1) := by decide +kernel
theorem d_Row_addWord_2 : decode b_Row_addWord 2 = .ok (.iload_n 2, 1) := by decide +kernel
theorem d_Row_addWord_3 : decode b_Row_addWord 3 = .ok (.aload_n 1, 1) := by decide +kernel
theorem d_Row_addWord_4 : decode b_Row_addWord 4 = .ok (.invokevirtual 25, 3) := by decide +kernel
theorem d_Row_addWord_7 : decode b_Row_addWord 7 = .ok (.if_icmp .ge 18, 3) := by decide +kernel
theorem d_Row_addWord_10 : decode b_Row_addWord 10 = .ok (.aload_n 0, 1) := by decide +kernel
theorem d_Row_addWord_11 : decode b_Row_addWord 11 = .ok (.aload_n 1, 1) := by decide +kernel
theorem d_Row_addWord_12 : decode b_Row_addWord 12 = .ok (.iload_n 2, 1) := by decide +kernel
theorem d_Row_addWord_13 : decode b_Row_addWord 13 = .ok (.invokevirtual 30, 3) := by decide +kernel
theorem d_Row_addWord_16 : decode b_Row_addWord 16 = .ok (.invokevirtual 34, 3) := by decide +kernel
theorem d_Row_addWord_19 : decode b_Row_addWord 19 = .ok (.iinc 2 1, 3) := by decide +kernel
theorem d_Row_addWord_22 : decode b_Row_addWord 22 = .ok (.goto (-20), 3) := by decide +kernel
theorem d_Row_addWord_25 : decode b_Row_addWord 25 = .ok (.return_, 1) := by decide +kernel
abbrev b_Figures_sign : ByteArray := prog_5_method_9_code
abbrev y_Figures_sign : MethodName := ⟨"DirectivePrinter$Figures", "sign", "(I)C"⟩
def w_Figures_sign : List Cond := .code y_Figures_sign b_Figures_sign 4 (some .char) :: lw_g
theorem d_Figures_sign_0 : decode b_Figures_sign 0 = .ok (.iload_n 1, 1) := by decide +kernel
theorem d_Figures_sign_1 : decode b_Figures_sign 1 = .ok (.aload_n 0, 1) := by decide +kernel
theorem d_Figures_sign_2 : decode b_Figures_sign 2 = .ok (.getfield 17, 3) := by decide +kernel
theorem d_Figures_sign_5 : decode b_Figures_sign 5 = .ok (.iadd, 1) := by decide +kernel
theorem d_Figures_sign_6 : decode b_Figures_sign 6 = .ok (.istore_n 2, 1) := by decide +kernel
theorem d_Figures_sign_7 : decode b_Figures_sign 7 = .ok (.iload_n 2, 1) := by decide +kernel
theorem d_Figures_sign_8 : decode b_Figures_sign 8 = .ok (.ifCond .lt 26, 3) := by decide +kernel
theorem d_Figures_sign_11 : decode b_Figures_sign 11 = .ok (.iload_n 2, 1) := by decide +kernel
theorem d_Figures_sign_12 : decode b_Figures_sign 12 = .ok (.aload_n 0, 1) := by decide +kernel
theorem d_Figures_sign_13 : decode b_Figures_sign 13 = .ok (.getfield 13, 3) := by decide +kernel
theorem d_Figures_sign_16 : decode b_Figures_sign 16 = .ok (.if_icmp .ge 18, 3) := by decide +kernel
theorem d_Figures_sign_19 : decode b_Figures_sign 19 = .ok (.iload_n 2, 1) := by decide +kernel
theorem d_Figures_sign_20 : decode b_Figures_sign 20 = .ok (.bipush 24, 2) := by decide +kernel
theorem d_Figures_sign_22 : decode b_Figures_sign 22 = .ok (.if_icmp .ge 12, 3) := by decide +kernel
theorem d_Figures_sign_25 : decode b_Figures_sign 25 = .ok (.aload_n 0, 1) := by decide +kernel
theorem d_Figures_sign_26 : decode b_Figures_sign 26 = .ok (.getfield 9, 3) := by decide +kernel
theorem d_Figures_sign_29 : decode b_Figures_sign 29 = .ok (.iload_n 2, 1) := by decide +kernel
theorem d_Figures_sign_30 : decode b_Figures_sign 30 = .ok (.iaload, 1) := by decide +kernel
theorem d_Figures_sign_31 : decode b_Figures_sign 31 = .ok (.goto 4, 3) := by decide +kernel
theorem d_Figures_sign_34 : decode b_Figures_sign 34 = .ok (.iconst 0, 1) := by decide +kernel
theorem d_Figures_sign_35 : decode b_Figures_sign 35 = .ok (.istore_n 3, 1) := by decide +kernel
theorem d_Figures_sign_36 : decode b_Figures_sign 36 = .ok (.iload_n 3, 1) := by decide +kernel
theorem d_Figures_sign_37 : decode b_Figures_sign 37 = .ok (.ifCond .lt 21, 3) := by decide +kernel
theorem d_Figures_sign_40 : decode b_Figures_sign 40 = .ok (.iload_n 3, 1) := by decide +kernel
theorem d_Figures_sign_41 : decode b_Figures_sign 41 = .ok (.ldc 34, 2) := by decide +kernel
theorem d_Figures_sign_43 : decode b_Figures_sign 43 = .ok (.invokevirtual 36, 3) := by decide +kernel
theorem d_Figures_sign_46 : decode b_Figures_sign 46 = .ok (.if_icmp .ge 12, 3) := by decide +kernel
theorem d_Figures_sign_49 : decode b_Figures_sign 49 = .ok (.ldc 34, 2) := by decide +kernel
theorem d_Figures_sign_51 : decode b_Figures_sign 51 = .ok (.iload_n 3, 1) := by decide +kernel
theorem d_Figures_sign_52 : decode b_Figures_sign 52 = .ok (.invokevirtual 41, 3) := by decide +kernel
theorem d_Figures_sign_55 : decode b_Figures_sign 55 = .ok (.goto 5, 3) := by decide +kernel
theorem d_Figures_sign_58 : decode b_Figures_sign 58 = .ok (.bipush 48, 2) := by decide +kernel
theorem d_Figures_sign_60 : decode b_Figures_sign 60 = .ok (.ireturn, 1) := by decide +kernel
abbrev b_Directive_readFlags : ByteArray := prog_4_method_13_code
abbrev y_Directive_readFlags : MethodName := ⟨"DirectivePrinter$Directive", "readFlags", "(LDirectivePrinter$Row;)V"⟩
def w_Directive_readFlags : List Cond := .code y_Directive_readFlags b_Directive_readFlags 5 none :: lw_g
theorem d_Directive_readFlags_0 : decode b_Directive_readFlags 0 = .ok (.aload_n 0, 1) := by decide +kernel
theorem d_Directive_readFlags_1 : decode b_Directive_readFlags 1 = .ok (.iconst 0, 1) := by decide +kernel
theorem d_Directive_readFlags_2 : decode b_Directive_readFlags 2 = .ok (.putfield 15, 3) := by decide +kernel
theorem d_Directive_readFlags_5 : decode b_Directive_readFlags 5 = .ok (.aload_n 0, 1) := by decide +kernel
theorem d_Directive_readFlags_6 : decode b_Directive_readFlags 6 = .ok (.iconst 0, 1) := by decide +kernel
theorem d_Directive_readFlags_7 : decode b_Directive_readFlags 7 = .ok (.putfield 18, 3) := by decide +kernel
theorem d_Directive_readFlags_10 : decode b_Directive_readFlags 10 = .ok (.aload_n 1, 1) := by decide +kernel
theorem d_Directive_readFlags_11 : decode b_Directive_readFlags 11 = .ok (.invokevirtual 82, 3) := by decide +kernel
theorem d_Directive_readFlags_14 : decode b_Directive_readFlags 14 = .ok (.istore_n 2, 1) := by decide +kernel
theorem d_Directive_readFlags_15 : decode b_Directive_readFlags 15 = .ok (.aload_n 0, 1) := by decide +kernel
theorem d_Directive_readFlags_16 : decode b_Directive_readFlags 16 = .ok (.getfield 31, 3) := by decide +kernel
theorem d_Directive_readFlags_19 : decode b_Directive_readFlags 19 = .ok (.iload_n 2, 1) := by decide +kernel
theorem d_Directive_readFlags_20 : decode b_Directive_readFlags 20 = .ok (.if_icmp .ge 77, 3) := by decide +kernel
theorem d_Directive_readFlags_23 : decode b_Directive_readFlags 23 = .ok (.ldc 85, 2) := by decide +kernel
theorem d_Directive_readFlags_25 : decode b_Directive_readFlags 25 = .ok (.aload_n 1, 1) := by decide +kernel
theorem d_Directive_readFlags_26 : decode b_Directive_readFlags 26 = .ok (.aload_n 0, 1) := by decide +kernel
theorem d_Directive_readFlags_27 : decode b_Directive_readFlags 27 = .ok (.getfield 31, 3) := by decide +kernel
theorem d_Directive_readFlags_30 : decode b_Directive_readFlags 30 = .ok (.invokevirtual 48, 3) := by decide +kernel
theorem d_Directive_readFlags_33 : decode b_Directive_readFlags 33 = .ok (.i2c, 1) := by decide +kernel
theorem d_Directive_readFlags_34 : decode b_Directive_readFlags 34 = .ok (.invokevirtual 60, 3) := by decide +kernel
theorem d_Directive_readFlags_37 : decode b_Directive_readFlags 37 = .ok (.istore_n 3, 1) := by decide +kernel
theorem d_Directive_readFlags_38 : decode b_Directive_readFlags 38 = .ok (.iload_n 3, 1) := by decide +kernel
theorem d_Directive_readFlags_39 : decode b_Directive_readFlags 39 = .ok (.ifCond .ge 4, 3) := by decide +kernel
theorem d_Directive_readFlags_42 : decode b_Directive_readFlags 42 = .ok (.return_, 1) := by decide +kernel
theorem d_Directive_readFlags_43 : decode b_Directive_readFlags 43 = .ok (.iconst 1, 1) := by decide +kernel
theorem d_Directive_readFlags_44 : decode b_Directive_readFlags 44 = .ok (.iload_n 3, 1) := by decide +kernel
theorem d_Directive_readFlags_45 : decode b_Directive_readFlags 45 = .ok (.ishl, 1) := by decide +kernel
theorem d_Directive_readFlags_46 : decode b_Directive_readFlags 46 = .ok (.istore 4, 2) := by decide +kernel
theorem d_Directive_readFlags_48 : decode b_Directive_readFlags 48 = .ok (.aload_n 0, 1) := by decide +kernel
theorem d_Directive_readFlags_49 : decode b_Directive_readFlags 49 = .ok (.aload_n 0, 1) := by decide +kernel
theorem d_Directive_readFlags_50 : decode b_Directive_readFlags 50 = .ok (.getfield 18, 3) := by decide +kernel
theorem d_Directive_readFlags_53 : decode b_Directive_readFlags 53 = .ok (.ifCond .ne 12, 3) := by decide +kernel
theorem d_Directive_readFlags_56 : decode b_Directive_readFlags 56 = .ok (.aload_n 0, 1) := by decide +kernel
theorem d_Directive_readFlags_57 : decode b_Directive_readFlags 57 = .ok (.iload 4, 2) := by decide +kernel
theorem d_Directive_readFlags_59 : decode b_Directive_readFlags 59 = .ok (.invokevirtual 74, 3) := by decide +kernel
theorem d_Directive_readFlags_62 : decode b_Directive_readFlags 62 = .ok (.ifCond .eq 7, 3) := by decide +kernel
theorem d_Directive_readFlags_65 : decode b_Directive_readFlags 65 = .ok (.iconst 1, 1) := by decide +kernel
theorem d_Directive_readFlags_66 : decode b_Directive_readFlags 66 = .ok (.goto 4, 3) := by decide +kernel
theorem d_Directive_readFlags_69 : decode b_Directive_readFlags 69 = .ok (.iconst 0, 1) := by decide +kernel
theorem d_Directive_readFlags_70 : decode b_Directive_readFlags 70 = .ok (.putfield 18, 3) := by decide +kernel
theorem d_Directive_readFlags_73 : decode b_Directive_readFlags 73 = .ok (.aload_n 0, 1) := by decide +kernel
theorem d_Directive_readFlags_74 : decode b_Directive_readFlags 74 = .ok (.aload_n 0, 1) := by decide +kernel
theorem d_Directive_readFlags_75 : decode b_Directive_readFlags 75 = .ok (.getfield 15, 3) := by decide +kernel
theorem d_Directive_readFlags_78 : decode b_Directive_readFlags 78 = .ok (.iload 4, 2) := by decide +kernel
theorem d_Directive_readFlags_80 : decode b_Directive_readFlags 80 = .ok (.ior, 1) := by decide +kernel
theorem d_Directive_readFlags_81 : decode b_Directive_readFlags 81 = .ok (.putfield 15, 3) := by decide +kernel
theorem d_Directive_readFlags_84 : decode b_Directive_readFlags 84 = .ok (.aload_n 0, 1) := by decide +kernel
theorem d_Directive_readFlags_85 : decode b_Directive_readFlags 85 = .ok (.dup, 1) := by decide +kernel
theorem d_Directive_readFlags_86 : decode b_Directive_readFlags 86 = .ok (.getfield 31, 3) := by decide +kernel
theorem d_Directive_readFlags_89 : decode b_Directive_readFlags 89 = .ok (.iconst 1, 1) := by decide +kernel
theorem d_Directive_readFlags_90 : decode b_Directive_readFlags 90 = .ok (.iadd, 1) := by decide +kernel
theorem d_Directive_readFlags_91 : decode b_Directive_readFlags 91 = .ok (.putfield 31, 3) := by decide +kernel
theorem d_Directive_readFlags_94 : decode b_Directive_readFlags 94 = .ok (.goto (-79), 3) := by decide +kernel
theorem d_Directive_readFlags_97 : decode b_Directive_readFlags 97 = .ok (.return_, 1) := by decide +kernel
abbrev b_Directive_faultOfForm : ByteArray := prog_4_method_9_code
abbrev y_Directive_faultOfForm : MethodName := ⟨"DirectivePrinter$Directive", "faultOfForm", "()I"⟩
def w_Directive_faultOfForm : List Cond := .code y_Directive_faultOfForm b_Directive_faultOfForm 1 (some .int) :: lw_g
theorem d_Directive_faultOfForm_0 : decode b_Directive_faultOfForm 0 = .ok (.aload_n 0, 1) := by decide +kernel
theorem d_Directive_faultOfForm_1 : decode b_Directive_faultOfForm 1 = .ok (.getfield 28, 3) := by decide +kernel
theorem d_Directive_faultOfForm_4 : decode b_Directive_faultOfForm 4 = .ok (.iconst (-1), 1) := by decide +kernel
theorem d_Directive_faultOfForm_5 : decode b_Directive_faultOfForm 5 = .ok (.if_icmp .ne 5, 3) := by decide +kernel
theorem d_Directive_faultOfForm_8 : decode b_Directive_faultOfForm 8 = .ok (.iconst 1, 1) := by decide +kernel
theorem d_Directive_faultOfForm_9 : decode b_Directive_faultOfForm 9 = .ok (.ireturn, 1) := by decide +kernel
theorem d_Directive_faultOfForm_10 : decode b_Directive_faultOfForm 10 = .ok (.ldc 58, 2) := by decide +kernel
theorem d_Directive_faultOfForm_12 : decode b_Directive_faultOfForm 12 = .ok (.aload_n 0, 1) := by decide +kernel
theorem d_Directive_faultOfForm_13 : decode b_Directive_faultOfForm 13 = .ok (.getfield 28, 3) := by decide +kernel
theorem d_Directive_faultOfForm_16 : decode b_Directive_faultOfForm 16 = .ok (.i2c, 1) := by decide +kernel
theorem d_Directive_faultOfForm_17 : decode b_Directive_faultOfForm 17 = .ok (.invokevirtual 60, 3) := by decide +kernel
theorem d_Directive_faultOfForm_20 : decode b_Directive_faultOfForm 20 = .ok (.ifCond .ge 5, 3) := by decide +kernel
theorem d_Directive_faultOfForm_23 : decode b_Directive_faultOfForm 23 = .ok (.iconst 2, 1) := by decide +kernel
theorem d_Directive_faultOfForm_24 : decode b_Directive_faultOfForm 24 = .ok (.ireturn, 1) := by decide +kernel
theorem d_Directive_faultOfForm_25 : decode b_Directive_faultOfForm 25 = .ok (.aload_n 0, 1) := by decide +kernel
theorem d_Directive_faultOfForm_26 : decode b_Directive_faultOfForm 26 = .ok (.getfield 18, 3) := by decide +kernel
theorem d_Directive_faultOfForm_29 : decode b_Directive_faultOfForm 29 = .ok (.ifCond .eq 5, 3) := by decide +kernel
theorem d_Directive_faultOfForm_32 : decode b_Directive_faultOfForm 32 = .ok (.iconst 3, 1) := by decide +kernel
theorem d_Directive_faultOfForm_33 : decode b_Directive_faultOfForm 33 = .ok (.ireturn, 1) := by decide +kernel
theorem d_Directive_faultOfForm_34 : decode b_Directive_faultOfForm 34 = .ok (.aload_n 0, 1) := by decide +kernel
theorem d_Directive_faultOfForm_35 : decode b_Directive_faultOfForm 35 = .ok (.getfield 28, 3) := by decide +kernel
theorem d_Directive_faultOfForm_38 : decode b_Directive_faultOfForm 38 = .ok (.bipush 110, 2) := by decide +kernel
theorem d_Directive_faultOfForm_40 : decode b_Directive_faultOfForm 40 = .ok (.if_icmp .ne 28, 3) := by decide +kernel
theorem d_Directive_faultOfForm_43 : decode b_Directive_faultOfForm 43 = .ok (.aload_n 0, 1) := by decide +kernel
theorem d_Directive_faultOfForm_44 : decode b_Directive_faultOfForm 44 = .ok (.getfield 22, 3) := by decide +kernel
theorem d_Directive_faultOfForm_47 : decode b_Directive_faultOfForm 47 = .ok (.iconst (-1), 1) := by decide +kernel
theorem d_Directive_faultOfForm_48 : decode b_Directive_faultOfForm 48 = .ok (.if_icmp .ne 18, 3) := by decide +kernel
theorem d_Directive_faultOfForm_51 : decode b_Directive_faultOfForm 51 = .ok (.aload_n 0, 1) := by decide +kernel
theorem d_Directive_faultOfForm_52 : decode b_Directive_faultOfForm 52 = .ok (.getfield 25, 3) := by decide +kernel
theorem d_Directive_faultOfForm_55 : decode b_Directive_faultOfForm 55 = .ok (.iconst (-1), 1) := by decide +kernel
theorem d_Directive_faultOfForm_56 : decode b_Directive_faultOfForm 56 = .ok (.if_icmp .ne 10, 3) := by decide +kernel
theorem d_Directive_faultOfForm_59 : decode b_Directive_faultOfForm 59 = .ok (.aload_n 0, 1) := by decide +kernel
theorem d_Directive_faultOfForm_60 : decode b_Directive_faultOfForm 60 = .ok (.getfield 15, 3) := by decide +kernel
theorem d_Directive_faultOfForm_63 : decode b_Directive_faultOfForm 63 = .ok (.ifCond .eq 5, 3) := by decide +kernel
theorem d_Directive_faultOfForm_66 : decode b_Directive_faultOfForm 66 = .ok (.iconst 4, 1) := by decide +kernel
theorem d_Directive_faultOfForm_67 : decode b_Directive_faultOfForm 67 = .ok (.ireturn, 1) := by decide +kernel
theorem d_Directive_faultOfForm_68 : decode b_Directive_faultOfForm 68 = .ok (.aload_n 0, 1) := by decide +kernel
theorem d_Directive_faultOfForm_69 : decode b_Directive_faultOfForm 69 = .ok (.getfield 25, 3) := by decide +kernel
theorem d_Directive_faultOfForm_72 : decode b_Directive_faultOfForm 72 = .ok (.iconst (-1), 1) := by decide +kernel
theorem d_Directive_faultOfForm_73 : decode b_Directive_faultOfForm 73 = .ok (.if_icmp .eq 18, 3) := by decide +kernel
theorem d_Directive_faultOfForm_76 : decode b_Directive_faultOfForm 76 = .ok (.ldc 65, 2) := by decide +kernel
theorem d_Directive_faultOfForm_78 : decode b_Directive_faultOfForm 78 = .ok (.aload_n 0, 1) := by decide +kernel
theorem d_Directive_faultOfForm_79 : decode b_Directive_faultOfForm 79 = .ok (.getfield 28, 3) := by decide +kernel
theorem d_Directive_faultOfForm_82 : decode b_Directive_faultOfForm 82 = .ok (.i2c, 1) := by decide +kernel
theorem d_Directive_faultOfForm_83 : decode b_Directive_faultOfForm 83 = .ok (.invokevirtual 60, 3) := by decide +kernel
theorem d_Directive_faultOfForm_86 : decode b_Directive_faultOfForm 86 = .ok (.ifCond .lt 5, 3) := by decide +kernel
theorem d_Directive_faultOfForm_89 : decode b_Directive_faultOfForm 89 = .ok (.iconst 5, 1) := by decide +kernel
theorem d_Directive_faultOfForm_90 : decode b_Directive_faultOfForm 90 = .ok (.ireturn, 1) := by decide +kernel
theorem d_Directive_faultOfForm_91 : decode b_Directive_faultOfForm 91 = .ok (.aload_n 0, 1) := by decide +kernel
theorem d_Directive_faultOfForm_92 : decode b_Directive_faultOfForm 92 = .ok (.invokevirtual 67, 3) := by decide +kernel
theorem d_Directive_faultOfForm_95 : decode b_Directive_faultOfForm 95 = .ok (.ireturn, 1) := by decide +kernel
abbrev b_Directive_read : ByteArray := prog_4_method_2_code
abbrev y_Directive_read : MethodName := ⟨"DirectivePrinter$Directive", "read", "(LDirectivePrinter$Row;I)V"⟩
def w_Directive_read : List Cond := .code y_Directive_read b_Directive_read 3 none :: lw_g
theorem d_Directive_read_0 : decode b_Directive_read 0 = .ok (.aload_n 0, 1) := by decide +kernel
theorem d_Directive_read_1 : decode b_Directive_read 1 = .ok (.iload_n 2, 1) := by decide +kernel
theorem d_Directive_read_2 : decode b_Directive_read 2 = .ok (.iconst 1, 1) := by decide +kernel
theorem d_Directive_read_3 : decode b_Directive_read 3 = .ok (.iadd, 1) := by decide +kernel
theorem d_Directive_read_4 : decode b_Directive_read 4 = .ok (.putfield 31, 3) := by decide +kernel
theorem d_Directive_read_7 : decode b_Directive_read 7 = .ok (.aload_n 0, 1) := by decide +kernel
theorem d_Directive_read_8 : decode b_Directive_read 8 = .ok (.aload_n 1, 1) := by decide +kernel
theorem d_Directive_read_9 : decode b_Directive_read 9 = .ok (.invokevirtual 34, 3) := by decide +kernel
theorem d_Directive_read_12 : decode b_Directive_read 12 = .ok (.aload_n 0, 1) := by decide +kernel
theorem d_Directive_read_13 : decode b_Directive_read 13 = .ok (.aload_n 1, 1) := by decide +kernel
theorem d_Directive_read_14 : decode b_Directive_read 14 = .ok (.invokevirtual 38, 3) := by decide +kernel
theorem d_Directive_read_17 : decode b_Directive_read 17 = .ok (.aload_n 0, 1) := by decide +kernel
theorem d_Directive_read_18 : decode b_Directive_read 18 = .ok (.aload_n 0, 1) := by decide +kernel
theorem d_Directive_read_19 : decode b_Directive_read 19 = .ok (.aload_n 1, 1) := by decide +kernel
theorem d_Directive_read_20 : decode b_Directive_read 20 = .ok (.invokevirtual 41, 3) := by decide +kernel
theorem d_Directive_read_23 : decode b_Directive_read 23 = .ok (.putfield 22, 3) := by decide +kernel
theorem d_Directive_read_26 : decode b_Directive_read 26 = .ok (.aload_n 0, 1) := by decide +kernel
theorem d_Directive_read_27 : decode b_Directive_read 27 = .ok (.aload_n 1, 1) := by decide +kernel
theorem d_Directive_read_28 : decode b_Directive_read 28 = .ok (.invokevirtual 45, 3) := by decide +kernel
theorem d_Directive_read_31 : decode b_Directive_read 31 = .ok (.aload_n 0, 1) := by decide +kernel
theorem d_Directive_read_32 : decode b_Directive_read 32 = .ok (.aload_n 1, 1) := by decide +kernel
theorem d_Directive_read_33 : decode b_Directive_read 33 = .ok (.aload_n 0, 1) := by decide +kernel
theorem d_Directive_read_34 : decode b_Directive_read 34 = .ok (.getfield 31, 3) := by decide +kernel
theorem d_Directive_read_37 : decode b_Directive_read 37 = .ok (.invokevirtual 48, 3) := by decide +kernel
theorem d_Directive_read_40 : decode b_Directive_read 40 = .ok (.putfield 28, 3) := by decide +kernel
theorem d_Directive_read_43 : decode b_Directive_read 43 = .ok (.return_, 1) := by decide +kernel
abbrev b_Argument_isFalse : ByteArray := prog_2_method_2_code
abbrev y_Argument_isFalse : MethodName := ⟨"DirectivePrinter$Argument", "isFalse", "()Z"⟩
def w_Argument_isFalse : List Cond := .code y_Argument_isFalse b_Argument_isFalse 1 (some .boolean) :: lw_g
theorem d_Argument_isFalse_0 : decode b_Argument_isFalse 0 = .ok (.aload_n 0, 1) := by decide +kernel
theorem d_Argument_isFalse_1 : decode b_Argument_isFalse 1 = .ok (.getfield 15, 3) := by decide +kernel
theorem d_Argument_isFalse_4 : decode b_Argument_isFalse 4 = .ok (.getstatic 9, 3) := by decide +kernel
theorem d_Argument_isFalse_7 : decode b_Argument_isFalse 7 = .ok (.if_acmp .eq 22, 3) := by decide +kernel
theorem d_Argument_isFalse_10 : decode b_Argument_isFalse 10 = .ok (.aload_n 0, 1) := by decide +kernel
theorem d_Argument_isFalse_11 : decode b_Argument_isFalse 11 = .ok (.getfield 15, 3) := by decide +kernel
theorem d_Argument_isFalse_14 : decode b_Argument_isFalse 14 = .ok (.getstatic 37, 3) := by decide +kernel
theorem d_Argument_isFalse_17 : decode b_Argument_isFalse 17 = .ok (.if_acmp .ne 16, 3) := by decide +kernel
theorem d_Argument_isFalse_20 : decode b_Argument_isFalse 20 = .ok (.aload_n 0, 1) := by decide +kernel
theorem d_Argument_isFalse_21 : decode b_Argument_isFalse 21 = .ok (.getfield 20, 3) := by decide +kernel
theorem d_Argument_isFalse_24 : decode b_Argument_isFalse 24 = .ok (.lconst 0, 1) := by decide +kernel
theorem d_Argument_isFalse_25 : decode b_Argument_isFalse 25 = .ok (.lcmp, 1) := by decide +kernel
theorem d_Argument_isFalse_26 : decode b_Argument_isFalse 26 = .ok (.ifCond .ne 7, 3) := by decide +kernel
theorem d_Argument_isFalse_29 : decode b_Argument_isFalse 29 = .ok (.iconst 1, 1) := by decide +kernel
theorem d_Argument_isFalse_30 : decode b_Argument_isFalse 30 = .ok (.goto 4, 3) := by decide +kernel
theorem d_Argument_isFalse_33 : decode b_Argument_isFalse 33 = .ok (.iconst 0, 1) := by decide +kernel
theorem d_Argument_isFalse_34 : decode b_Argument_isFalse 34 = .ok (.ireturn, 1) := by decide +kernel
abbrev b_Argument_scale : ByteArray := prog_2_method_3_code
abbrev y_Argument_scale : MethodName := ⟨"DirectivePrinter$Argument", "scale", "()I"⟩
def w_Argument_scale : List Cond := .code y_Argument_scale b_Argument_scale 1 (some .int) :: lw_g
theorem d_Argument_scale_0 : decode b_Argument_scale 0 = .ok (.aload_n 0, 1) := by decide +kernel
theorem d_Argument_scale_1 : decode b_Argument_scale 1 = .ok (.getfield 15, 3) := by decide +kernel
theorem d_Argument_scale_4 : decode b_Argument_scale 4 = .ok (.getstatic 40, 3) := by decide +kernel
theorem d_Argument_scale_7 : decode b_Argument_scale 7 = .ok (.if_acmp .ne 10, 3) := by decide +kernel
theorem d_Argument_scale_10 : decode b_Argument_scale 10 = .ok (.aload_n 0, 1) := by decide +kernel
theorem d_Argument_scale_11 : decode b_Argument_scale 11 = .ok (.getfield 24, 3) := by decide +kernel
theorem d_Argument_scale_14 : decode b_Argument_scale 14 = .ok (.goto 4, 3) := by decide +kernel
theorem d_Argument_scale_17 : decode b_Argument_scale 17 = .ok (.iconst 0, 1) := by decide +kernel
theorem d_Argument_scale_18 : decode b_Argument_scale 18 = .ok (.ireturn, 1) := by decide +kernel
abbrev b_Argument_suits : ByteArray := prog_2_method_5_code
abbrev y_Argument_suits : MethodName := ⟨"DirectivePrinter$Argument", "suits", "(C)Z"⟩
def w_Argument_suits : List Cond := .code y_Argument_suits b_Argument_suits 2 (some .boolean) :: lw_g
theorem d_Argument_suits_0 : decode b_Argument_suits 0 = .ok (.aload_n 0, 1) := by decide +kernel
theorem d_Argument_suits_1 : decode b_Argument_suits 1 = .ok (.getfield 15, 3) := by decide +kernel
theorem d_Argument_suits_4 : decode b_Argument_suits 4 = .ok (.getstatic 9, 3) := by decide +kernel
theorem d_Argument_suits_7 : decode b_Argument_suits 7 = .ok (.if_acmp .eq 15, 3) := by decide +kernel
theorem d_Argument_suits_10 : decode b_Argument_suits 10 = .ok (.iload_n 1, 1) := by decide +kernel
theorem d_Argument_suits_11 : decode b_Argument_suits 11 = .ok (.bipush 98, 2) := by decide +kernel
theorem d_Argument_suits_13 : decode b_Argument_suits 13 = .ok (.if_icmp .eq 9, 3) := by decide +kernel
theorem d_Argument_suits_16 : decode b_Argument_suits 16 = .ok (.iload_n 1, 1) := by decide +kernel
theorem d_Argument_suits_17 : decode b_Argument_suits 17 = .ok (.bipush 115, 2) := by decide +kernel
theorem d_Argument_suits_19 : decode b_Argument_suits 19 = .ok (.if_icmp .ne 5, 3) := by decide +kernel
theorem d_Argument_suits_22 : decode b_Argument_suits 22 = .ok (.iconst 1, 1) := by decide +kernel
theorem d_Argument_suits_23 : decode b_Argument_suits 23 = .ok (.ireturn, 1) := by decide +kernel
theorem d_Argument_suits_24 : decode b_Argument_suits 24 = .ok (.iload_n 1, 1) := by decide +kernel
theorem d_Argument_suits_25 : decode b_Argument_suits 25 = .ok (.bipush 99, 2) := by decide +kernel
theorem d_Argument_suits_27 : decode b_Argument_suits 27 = .ok (.if_icmp .ne 38, 3) := by decide +kernel
theorem d_Argument_suits_30 : decode b_Argument_suits 30 = .ok (.aload_n 0, 1) := by decide +kernel
theorem d_Argument_suits_31 : decode b_Argument_suits 31 = .ok (.getfield 15, 3) := by decide +kernel
theorem d_Argument_suits_34 : decode b_Argument_suits 34 = .ok (.getstatic 52, 3) := by decide +kernel
theorem d_Argument_suits_37 : decode b_Argument_suits 37 = .ok (.if_acmp .eq 22, 3) := by decide +kernel
theorem d_Argument_suits_40 : decode b_Argument_suits 40 = .ok (.aload_n 0, 1) := by decide +kernel
theorem d_Argument_suits_41 : decode b_Argument_suits 41 = .ok (.getfield 15, 3) := by decide +kernel
theorem d_Argument_suits_44 : decode b_Argument_suits 44 = .ok (.getstatic 47, 3) := by decide +kernel
theorem d_Argument_suits_47 : decode b_Argument_suits 47 = .ok (.if_acmp .ne 16, 3) := by decide +kernel
theorem d_Argument_suits_50 : decode b_Argument_suits 50 = .ok (.aload_n 0, 1) := by decide +kernel
theorem d_Argument_suits_51 : decode b_Argument_suits 51 = .ok (.getfield 24, 3) := by decide +kernel
theorem d_Argument_suits_54 : decode b_Argument_suits 54 = .ok (.bipush 64, 2) := by decide +kernel
theorem d_Argument_suits_56 : decode b_Argument_suits 56 = .ok (.if_icmp .ge 7, 3) := by decide +kernel
theorem d_Argument_suits_59 : decode b_Argument_suits 59 = .ok (.iconst 1, 1) := by decide +kernel
theorem d_Argument_suits_60 : decode b_Argument_suits 60 = .ok (.goto 4, 3) := by decide +kernel
theorem d_Argument_suits_63 : decode b_Argument_suits 63 = .ok (.iconst 0, 1) := by decide +kernel
theorem d_Argument_suits_64 : decode b_Argument_suits 64 = .ok (.ireturn, 1) := by decide +kernel
theorem d_Argument_suits_65 : decode b_Argument_suits 65 = .ok (.iload_n 1, 1) := by decide +kernel
theorem d_Argument_suits_66 : decode b_Argument_suits 66 = .ok (.bipush 100, 2) := by decide +kernel
theorem d_Argument_suits_68 : decode b_Argument_suits 68 = .ok (.if_icmp .eq 15, 3) := by decide +kernel
theorem d_Argument_suits_71 : decode b_Argument_suits 71 = .ok (.iload_n 1, 1) := by decide +kernel
theorem d_Argument_suits_72 : decode b_Argument_suits 72 = .ok (.bipush 111, 2) := by decide +kernel
theorem d_Argument_suits_74 : decode b_Argument_suits 74 = .ok (.if_icmp .eq 9, 3) := by decide +kernel
theorem d_Argument_suits_77 : decode b_Argument_suits 77 = .ok (.iload_n 1, 1) := by decide +kernel
theorem d_Argument_suits_78 : decode b_Argument_suits 78 = .ok (.bipush 120, 2) := by decide +kernel
theorem d_Argument_suits_80 : decode b_Argument_suits 80 = .ok (.if_icmp .ne 19, 3) := by decide +kernel
theorem d_Argument_suits_83 : decode b_Argument_suits 83 = .ok (.aload_n 0, 1) := by decide +kernel
theorem d_Argument_suits_84 : decode b_Argument_suits 84 = .ok (.getfield 15, 3) := by decide +kernel
theorem d_Argument_suits_87 : decode b_Argument_suits 87 = .ok (.getstatic 47, 3) := by decide +kernel
theorem d_Argument_suits_90 : decode b_Argument_suits 90 = .ok (.if_acmp .ne 7, 3) := by decide +kernel
theorem d_Argument_suits_93 : decode b_Argument_suits 93 = .ok (.iconst 1, 1) := by decide +kernel
theorem d_Argument_suits_94 : decode b_Argument_suits 94 = .ok (.goto 4, 3) := by decide +kernel
theorem d_Argument_suits_97 : decode b_Argument_suits 97 = .ok (.iconst 0, 1) := by decide +kernel
theorem d_Argument_suits_98 : decode b_Argument_suits 98 = .ok (.ireturn, 1) := by decide +kernel
theorem d_Argument_suits_99 : decode b_Argument_suits 99 = .ok (.aload_n 0, 1) := by decide +kernel
theorem d_Argument_suits_100 : decode b_Argument_suits 100 = .ok (.getfield 15, 3) := by decide +kernel
theorem d_Argument_suits_103 : decode b_Argument_suits 103 = .ok (.getstatic 40, 3) := by decide +kernel
theorem d_Argument_suits_106 : decode b_Argument_suits 106 = .ok (.if_acmp .ne 7, 3) := by decide +kernel
theorem d_Argument_suits_109 : decode b_Argument_suits 109 = .ok (.iconst 1, 1) := by decide +kernel
theorem d_Argument_suits_110 : decode b_Argument_suits 110 = .ok (.goto 4, 3) := by decide +kernel
theorem d_Argument_suits_113 : decode b_Argument_suits 113 = .ok (.iconst 0, 1) := by decide +kernel
theorem d_Argument_suits_114 : decode b_Argument_suits 114 = .ok (.ireturn, 1) := by decide +kernel
abbrev b_Argument_faultWith : ByteArray := prog_2_method_4_code
abbrev y_Argument_faultWith : MethodName := ⟨"DirectivePrinter$Argument", "faultWith", "(C)I"⟩
def w_Argument_faultWith : List Cond := .code y_Argument_faultWith b_Argument_faultWith 2 (some .int) :: lw_g
theorem d_Argument_faultWith_0 : decode b_Argument_faultWith 0 = .ok (.aload_n 0, 1) := by decide +kernel
theorem d_Argument_faultWith_1 : decode b_Argument_faultWith 1 = .ok (.iload_n 1, 1) := by decide +kernel
theorem d_Argument_faultWith_2 : decode b_Argument_faultWith 2 = .ok (.invokevirtual 43, 3) := by decide +kernel
theorem d_Argument_faultWith_5 : decode b_Argument_faultWith 5 = .ok (.ifCond .ne 6, 3) := by decide +kernel
theorem d_Argument_faultWith_8 : decode b_Argument_faultWith 8 = .ok (.bipush 10, 2) := by decide +kernel
theorem d_Argument_faultWith_10 : decode b_Argument_faultWith 10 = .ok (.ireturn, 1) := by decide +kernel
theorem d_Argument_faultWith_11 : decode b_Argument_faultWith 11 = .ok (.iload_n 1, 1) := by decide +kernel
theorem d_Argument_faultWith_12 : decode b_Argument_faultWith 12 = .ok (.bipush 99, 2) := by decide +kernel
theorem d_Argument_faultWith_14 : decode b_Argument_faultWith 14 = .ok (.if_icmp .ne 36, 3) := by decide +kernel
theorem d_Argument_faultWith_17 : decode b_Argument_faultWith 17 = .ok (.aload_n 0, 1) := by decide +kernel
theorem d_Argument_faultWith_18 : decode b_Argument_faultWith 18 = .ok (.getfield 15, 3) := by decide +kernel
theorem d_Argument_faultWith_21 : decode b_Argument_faultWith 21 = .ok (.getstatic 47, 3) := by decide +kernel
theorem d_Argument_faultWith_24 : decode b_Argument_faultWith 24 = .ok (.if_acmp .ne 26, 3) := by decide +kernel
theorem d_Argument_faultWith_27 : decode b_Argument_faultWith 27 = .ok (.aload_n 0, 1) := by decide +kernel
theorem d_Argument_faultWith_28 : decode b_Argument_faultWith 28 = .ok (.getfield 20, 3) := by decide +kernel
theorem d_Argument_faultWith_31 : decode b_Argument_faultWith 31 = .ok (.lconst 0, 1) := by decide +kernel
theorem d_Argument_faultWith_32 : decode b_Argument_faultWith 32 = .ok (.lcmp, 1) := by decide +kernel
theorem d_Argument_faultWith_33 : decode b_Argument_faultWith 33 = .ok (.ifCond .lt 14, 3) := by decide +kernel
theorem d_Argument_faultWith_36 : decode b_Argument_faultWith 36 = .ok (.aload_n 0, 1) := by decide +kernel
theorem d_Argument_faultWith_37 : decode b_Argument_faultWith 37 = .ok (.getfield 20, 3) := by decide +kernel
theorem d_Argument_faultWith_40 : decode b_Argument_faultWith 40 = .ok (.ldc2_w 50, 3) := by decide +kernel
theorem d_Argument_faultWith_43 : decode b_Argument_faultWith 43 = .ok (.lcmp, 1) := by decide +kernel
theorem d_Argument_faultWith_44 : decode b_Argument_faultWith 44 = .ok (.ifCond .le 6, 3) := by decide +kernel
theorem d_Argument_faultWith_47 : decode b_Argument_faultWith 47 = .ok (.bipush 11, 2) := by decide +kernel
theorem d_Argument_faultWith_49 : decode b_Argument_faultWith 49 = .ok (.ireturn, 1) := by decide +kernel
theorem d_Argument_faultWith_50 : decode b_Argument_faultWith 50 = .ok (.iconst 0, 1) := by decide +kernel
theorem d_Argument_faultWith_51 : decode b_Argument_faultWith 51 = .ok (.ireturn, 1) := by decide +kernel
set_option maxRecDepth 100000 in
theorem q_473 : (.methodLink "DirectivePrinter$Row" 25 ⟨"java/lang/String", "length", "()I"⟩ : Cond) ∈ lw_g := List.mem_filter.mpr ⟨List.mem_of_getElem? (i := 473) (by decide +kernel), by decide +kernel⟩
set_option maxRecDepth 100000 in
theorem q_474 : (.methodLink "DirectivePrinter$Row" 30 ⟨"java/lang/String", "charAt", "(I)C"⟩ : Cond) ∈ lw_g := List.mem_filter.mpr ⟨List.mem_of_getElem? (i := 474) (by decide +kernel), by decide +kernel⟩
set_option maxRecDepth 100000 in
theorem q_475 : (.instanceMethod ⟨"java/lang/String", "charAt", "(I)C"⟩ : Cond) ∈ lw_g := List.mem_filter.mpr ⟨List.mem_of_getElem? (i := 475) (by decide +kernel), by decide +kernel⟩
set_option maxRecDepth 100000 in
theorem q_476 : (.selects "java/lang/String" ⟨"java/lang/String", "charAt", "(I)C"⟩ ⟨"java/lang/String", "charAt", "(I)C"⟩ : Cond) ∈ lw_g := List.mem_filter.mpr ⟨List.mem_of_getElem? (i := 476) (by decide +kernel), by decide +kernel⟩
set_option maxRecDepth 100000 in
theorem q_477 : (.code ⟨"java/lang/String", "charAt", "(I)C"⟩ prog_17_method_56_code 2 (Option.some FieldType.char) : Cond) ∈ lw_g := List.mem_filter.mpr ⟨List.mem_of_getElem? (i := 477) (rfl), by decide +kernel⟩
set_option maxRecDepth 100000 in
theorem q_542 : (.methodLink "DirectivePrinter$Figures" 36 ⟨"java/lang/String", "length", "()I"⟩ : Cond) ∈ lw_g := List.mem_filter.mpr ⟨List.mem_of_getElem? (i := 542) (by decide +kernel), by decide +kernel⟩
set_option maxRecDepth 100000 in
theorem q_543 : (.methodLink "DirectivePrinter$Figures" 41 ⟨"java/lang/String", "charAt", "(I)C"⟩ : Cond) ∈ lw_g := List.mem_filter.mpr ⟨List.mem_of_getElem? (i := 543) (by decide +kernel), by decide +kernel⟩
set_option maxRecDepth 100000 in
theorem q_140 : (.fieldLink "DirectivePrinter$Directive" 18 "DirectivePrinter$Directive" "flagTwice" "Z" : Cond) ∈ lw_g := List.mem_filter.mpr ⟨List.mem_of_getElem? (i := 140) (by decide +kernel), by decide +kernel⟩
set_option maxRecDepth 100000 in
theorem q_307 : (.methodLink "DirectivePrinter$Directive" 60 ⟨"java/lang/String", "indexOf", "(I)I"⟩ : Cond) ∈ lw_g := List.mem_filter.mpr ⟨List.mem_of_getElem? (i := 307) (by decide +kernel), by decide +kernel⟩
set_option maxRecDepth 100000 in
theorem q_308 : (.instanceMethod ⟨"java/lang/String", "indexOf", "(I)I"⟩ : Cond) ∈ lw_g := List.mem_filter.mpr ⟨List.mem_of_getElem? (i := 308) (by decide +kernel), by decide +kernel⟩
set_option maxRecDepth 100000 in
theorem q_309 : (.selects "java/lang/String" ⟨"java/lang/String", "indexOf", "(I)I"⟩ ⟨"java/lang/String", "indexOf", "(I)I"⟩ : Cond) ∈ lw_g := List.mem_filter.mpr ⟨List.mem_of_getElem? (i := 309) (by decide +kernel), by decide +kernel⟩
set_option maxRecDepth 100000 in
theorem q_310 : (.code ⟨"java/lang/String", "indexOf", "(I)I"⟩ prog_17_method_79_code 2 (Option.some FieldType.int) : Cond) ∈ lw_g := List.mem_filter.mpr ⟨List.mem_of_getElem? (i := 310) (rfl), by decide +kernel⟩
set_option maxRecDepth 100000 in
theorem q_403 : (.methodLink "DirectivePrinter$Directive" 67 ⟨"DirectivePrinter$Directive", "faultOfFlags", "()I"⟩ : Cond) ∈ lw_g := List.mem_filter.mpr ⟨List.mem_of_getElem? (i := 403) (by decide +kernel), by decide +kernel⟩
set_option maxRecDepth 100000 in
theorem q_405 : (.instanceMethod ⟨"DirectivePrinter$Directive", "faultOfFlags", "()I"⟩ : Cond) ∈ lw_g := List.mem_filter.mpr ⟨List.mem_of_getElem? (i := 405) (by decide +kernel), by decide +kernel⟩
set_option maxRecDepth 100000 in
theorem q_6 : (.selects "DirectivePrinter$Directive" ⟨"DirectivePrinter$Directive", "faultOfFlags", "()I"⟩ ⟨"DirectivePrinter$Directive", "faultOfFlags", "()I"⟩ : Cond) ∈ lw_g := List.mem_filter.mpr ⟨List.mem_of_getElem? (i := 6) (by decide +kernel), by decide +kernel⟩
set_option maxRecDepth 100000 in
theorem q_406 : (.code ⟨"DirectivePrinter$Directive", "faultOfFlags", "()I"⟩ prog_4_method_10_code 1 (Option.some FieldType.int) : Cond) ∈ lw_g := List.mem_filter.mpr ⟨List.mem_of_getElem? (i := 406) (rfl), by decide +kernel⟩
set_option maxRecDepth 100000 in
theorem q_285 : (.methodLink "DirectivePrinter$Directive" 34 ⟨"DirectivePrinter$Directive", "readIndex", "(LDirectivePrinter$Row;)V"⟩ : Cond) ∈ lw_g := List.mem_filter.mpr ⟨List.mem_of_getElem? (i := 285) (by decide +kernel), by decide +kernel⟩
set_option maxRecDepth 100000 in
theorem q_287 : (.instanceMethod ⟨"DirectivePrinter$Directive", "readIndex", "(LDirectivePrinter$Row;)V"⟩ : Cond) ∈ lw_g := List.mem_filter.mpr ⟨List.mem_of_getElem? (i := 287) (by decide +kernel), by decide +kernel⟩
set_option maxRecDepth 100000 in
theorem q_2 : (.selects "DirectivePrinter$Directive" ⟨"DirectivePrinter$Directive", "readIndex", "(LDirectivePrinter$Row;)V"⟩ ⟨"DirectivePrinter$Directive", "readIndex", "(LDirectivePrinter$Row;)V"⟩ : Cond) ∈ lw_g := List.mem_filter.mpr ⟨List.mem_of_getElem? (i := 2) (by decide +kernel), by decide +kernel⟩
set_option maxRecDepth 100000 in
theorem q_288 : (.code ⟨"DirectivePrinter$Directive", "readIndex", "(LDirectivePrinter$Row;)V"⟩ prog_4_method_12_code 4 (Option.none : Option FieldType) : Cond) ∈ lw_g := List.mem_filter.mpr ⟨List.mem_of_getElem? (i := 288) (rfl), by decide +kernel⟩
set_option maxRecDepth 100000 in
theorem q_302 : (.methodLink "DirectivePrinter$Directive" 38 ⟨"DirectivePrinter$Directive", "readFlags", "(LDirectivePrinter$Row;)V"⟩ : Cond) ∈ lw_g := List.mem_filter.mpr ⟨List.mem_of_getElem? (i := 302) (by decide +kernel), by decide +kernel⟩
set_option maxRecDepth 100000 in
theorem q_304 : (.instanceMethod ⟨"DirectivePrinter$Directive", "readFlags", "(LDirectivePrinter$Row;)V"⟩ : Cond) ∈ lw_g := List.mem_filter.mpr ⟨List.mem_of_getElem? (i := 304) (by decide +kernel), by decide +kernel⟩
set_option maxRecDepth 100000 in
theorem q_4 : (.selects "DirectivePrinter$Directive" ⟨"DirectivePrinter$Directive", "readFlags", "(LDirectivePrinter$Row;)V"⟩ ⟨"DirectivePrinter$Directive", "readFlags", "(LDirectivePrinter$Row;)V"⟩ : Cond) ∈ lw_g := List.mem_filter.mpr ⟨List.mem_of_getElem? (i := 4) (by decide +kernel), by decide +kernel⟩
set_option maxRecDepth 100000 in
theorem q_305 : (.code ⟨"DirectivePrinter$Directive", "readFlags", "(LDirectivePrinter$Row;)V"⟩ prog_4_method_13_code 5 (Option.none : Option FieldType) : Cond) ∈ lw_g := List.mem_filter.mpr ⟨List.mem_of_getElem? (i := 305) (rfl), by decide +kernel⟩
set_option maxRecDepth 100000 in
theorem q_393 : (.methodLink "DirectivePrinter$Directive" 45 ⟨"DirectivePrinter$Directive", "readPrecision", "(LDirectivePrinter$Row;)V"⟩ : Cond) ∈ lw_g := List.mem_filter.mpr ⟨List.mem_of_getElem? (i := 393) (by decide +kernel), by decide +kernel⟩
set_option maxRecDepth 100000 in
theorem q_395 : (.instanceMethod ⟨"DirectivePrinter$Directive", "readPrecision", "(LDirectivePrinter$Row;)V"⟩ : Cond) ∈ lw_g := List.mem_filter.mpr ⟨List.mem_of_getElem? (i := 395) (by decide +kernel), by decide +kernel⟩
set_option maxRecDepth 100000 in
theorem q_5 : (.selects "DirectivePrinter$Directive" ⟨"DirectivePrinter$Directive", "readPrecision", "(LDirectivePrinter$Row;)V"⟩ ⟨"DirectivePrinter$Directive", "readPrecision", "(LDirectivePrinter$Row;)V"⟩ : Cond) ∈ lw_g := List.mem_filter.mpr ⟨List.mem_of_getElem? (i := 5) (by decide +kernel), by decide +kernel⟩
set_option maxRecDepth 100000 in
theorem q_396 : (.code ⟨"DirectivePrinter$Directive", "readPrecision", "(LDirectivePrinter$Row;)V"⟩ prog_4_method_14_code 2 (Option.none : Option FieldType) : Cond) ∈ lw_g := List.mem_filter.mpr ⟨List.mem_of_getElem? (i := 396) (rfl), by decide +kernel⟩
set_option maxRecDepth 100000 in
theorem q_110 : (.fieldLink "DirectivePrinter$Argument" 15 "DirectivePrinter$Argument" "kind" "LDirectivePrinter$Kind;" : Cond) ∈ lw_g := List.mem_filter.mpr ⟨List.mem_of_getElem? (i := 110) (by decide +kernel), by decide +kernel⟩
set_option maxRecDepth 100000 in
theorem q_106 : (.fieldLink "DirectivePrinter$Argument" 9 "DirectivePrinter$Kind" "NOTHING" "LDirectivePrinter$Kind;" : Cond) ∈ lw_g := List.mem_filter.mpr ⟨List.mem_of_getElem? (i := 106) (by decide +kernel), by decide +kernel⟩
set_option maxRecDepth 100000 in
theorem q_466 : (.fieldLink "DirectivePrinter$Argument" 37 "DirectivePrinter$Kind" "TRUTH" "LDirectivePrinter$Kind;" : Cond) ∈ lw_g := List.mem_filter.mpr ⟨List.mem_of_getElem? (i := 466) (by decide +kernel), by decide +kernel⟩
set_option maxRecDepth 100000 in
theorem q_113 : (.fieldLink "DirectivePrinter$Argument" 20 "DirectivePrinter$Argument" "value" "J" : Cond) ∈ lw_g := List.mem_filter.mpr ⟨List.mem_of_getElem? (i := 113) (by decide +kernel), by decide +kernel⟩
set_option maxRecDepth 100000 in
theorem q_449 : (.fieldLink "DirectivePrinter$Argument" 40 "DirectivePrinter$Kind" "DECIMAL" "LDirectivePrinter$Kind;" : Cond) ∈ lw_g := List.mem_filter.mpr ⟨List.mem_of_getElem? (i := 449) (by decide +kernel), by decide +kernel⟩
set_option maxRecDepth 100000 in
theorem q_116 : (.fieldLink "DirectivePrinter$Argument" 24 "DirectivePrinter$Argument" "size" "I" : Cond) ∈ lw_g := List.mem_filter.mpr ⟨List.mem_of_getElem? (i := 116) (by decide +kernel), by decide +kernel⟩
set_option maxRecDepth 100000 in
theorem q_447 : (.fieldLink "DirectivePrinter$Argument" 47 "DirectivePrinter$Kind" "WHOLE" "LDirectivePrinter$Kind;" : Cond) ∈ lw_g := List.mem_filter.mpr ⟨List.mem_of_getElem? (i := 447) (by decide +kernel), by decide +kernel⟩
set_option maxRecDepth 100000 in
theorem q_445 : (.fieldLink "DirectivePrinter$Argument" 52 "DirectivePrinter$Kind" "CHARACTER" "LDirectivePrinter$Kind;" : Cond) ∈ lw_g := List.mem_filter.mpr ⟨List.mem_of_getElem? (i := 445) (by decide +kernel), by decide +kernel⟩
set_option maxRecDepth 100000 in
theorem q_441 : (.methodLink "DirectivePrinter$Argument" 43 ⟨"DirectivePrinter$Argument", "suits", "(C)Z"⟩ : Cond) ∈ lw_g := List.mem_filter.mpr ⟨List.mem_of_getElem? (i := 441) (by decide +kernel), by decide +kernel⟩
set_option maxRecDepth 100000 in
theorem q_443 : (.instanceMethod ⟨"DirectivePrinter$Argument", "suits", "(C)Z"⟩ : Cond) ∈ lw_g := List.mem_filter.mpr ⟨List.mem_of_getElem? (i := 443) (by decide +kernel), by decide +kernel⟩
set_option maxRecDepth 100000 in
theorem q_11 : (.selects "DirectivePrinter$Argument" ⟨"DirectivePrinter$Argument", "suits", "(C)Z"⟩ ⟨"DirectivePrinter$Argument", "suits", "(C)Z"⟩ : Cond) ∈ lw_g := List.mem_filter.mpr ⟨List.mem_of_getElem? (i := 11) (by decide +kernel), by decide +kernel⟩
set_option maxRecDepth 100000 in
theorem q_57 : (.initialized "DirectivePrinter$Argument" : Cond) ∈ lw_g := List.mem_filter.mpr ⟨List.mem_of_getElem? (i := 57) (by decide +kernel), by decide +kernel⟩
set_option maxRecDepth 100000 in
theorem q_444 : (.code ⟨"DirectivePrinter$Argument", "suits", "(C)Z"⟩ prog_2_method_5_code 2 (Option.some FieldType.boolean) : Cond) ∈ lw_g := List.mem_filter.mpr ⟨List.mem_of_getElem? (i := 444) (rfl), by decide +kernel⟩
set_option maxRecDepth 100000 in
theorem q_451 : (.constantLong "DirectivePrinter$Argument" 50 (255 : Int64) : Cond) ∈ lw_g := List.mem_filter.mpr ⟨List.mem_of_getElem? (i := 451) (by decide +kernel), by decide +kernel⟩
/-! DirectivePrinter$Row.addWord(Ljava/lang/String;)V -/
def f_Row_addWord_2 (r_kept_n : Nat) (k : Nat) : Nat → (Nat → Int32) → Int32 → Int32 → Option ((Nat → Int32) × Int32)
  | 0, _, _, _ => none
  | fu + 1, r_kept, r_length, x2 => mm_b1 (f_String_length k) (fun r_1 => (if r_1 ≤ x2 then some (r_kept, r_length) else mm_b1 (f_String_charAt k x2) (fun r_2 => mm_b2 (f_Row_add r_kept_n r_kept r_length r_2) (fun o_3 o_4 => f_Row_addWord_2 r_kept_n k fu o_3 o_4 (x2 + (1 : Int32))))))
def f_Row_addWord (N : Nat) (r_kept_n : Nat) (r_kept : Nat → Int32) (r_length : Int32) (k : Nat) : Option ((Nat → Int32) × Int32) := f_Row_addWord_2 r_kept_n k N r_kept r_length (0 : Int32)
abbrev r_Row_addWord : Room := { frames := 4, cells := 0, slots := 0, locals := 85 }
set_option maxHeartbeats 4000000 in
set_option maxRecDepth 100000 in
theorem b_Row_addWord_2 {h_r h_r_kept : Nat} (Zo : mm_Zx Z ad adK adV) (C0 : mm_cx (dC, dI) vwC (tyl cC cI cJ cQ) Z p s m args meth c b_Row_addWord 3 none "DirectivePrinter$Row" w_Row_addWord A) (N : Nat) (r_kept_n : Nat) (k : Nat) (h_k_lt : k < NK) (out : (Nat → Int32) × Int32) : ∀ (fuel : Nat) (r_kept : Nat → Int32) (r_length : Int32) (x2 : Int32), f_Row_addWord_2 r_kept_n k fuel r_kept r_length x2 = some out → ∀ (H : Heap) (locs : List Loc), mm_w (dC, dI) vwC A s [(h_r, .inr (0, [.ref h_r_kept, .int r_length])), (h_r_kept, .inl (cC, r_kept_n, .inl r_kept))] H locs → ∀ (ls : Array Slot), lv_has ls 3 [(0, .ref h_r), (1, .ref (adK k)), (2, .int x2)] → W p l e r_Row_addWord s m args below meth c H locs 0 0 (MQ below (mm_qv (dC, dI) vwC (tyl cC cI cJ cQ) A [(h_r, .inr (0, [.ref h_r_kept, .int out.2])), (h_r_kept, .inl (cC, r_kept_n, .inl out.1))]) args s 0 0 A) (F0 m 2 ls []) := by
  obtain ⟨hx, hb, hr, hml, hown, hts, hlocks, hK, hZ, hA⟩ := id C0
  intro fuel
  induction fuel with
  | zero =>
    intro r_kept r_length x2 hf
    cases (show (none : Option ((Nat → Int32) × Int32)) = some out from hf)
  | succ fu ih =>
    intro r_kept r_length x2 hf H locs hw ls hl
    unfold f_Row_addWord_2 at hf
    refine lv_iload_n hx hb d_Row_addWord_2 rfl (lv_at hl 2 rfl) ?_
    refine lv_aload_n hx hb d_Row_addWord_3 rfl (lv_at hl 1 rfl) ?_
    obtain ⟨r_1, hu, hf⟩ := mm_b1_ok hf
    refine mm_ci (wr := [(h_r, .inr (0, [.ref h_r_kept, .int r_length])), (h_r_kept, .inl (cC, r_kept_n, .inl r_kept))]) (va_runV (As := []) (rest := [.int x2]) ⟨hx, hb, hml, hown, hts⟩ (c_String_length l Zo dC dI cC cI cJ cQ k h_k_lt  H.size r_1 hu) (cwV 0 hts (mm_gV q_473 q_322 q_323 q_69 q_324) rfl rfl rfl (by decide +kernel) ⟨Nat.le_of_ble_eq_true rfl, Nat.le_of_ble_eq_true rfl⟩) (mm_pvR Zo.1 hK hw hZ hA [] (by decide) rfl rfl (vk_recv ((Zo.2 _ _ _ hZ).2.2.1) h_k_lt hw.2.2)) rfl rfl hl.1 rfl (lv_room (Nat.le_of_ble_eq_true rfl)) d_Row_addWord_4 ⟨Nat.le_refl _, Nat.le_refl _⟩) hw hA [] [0, 1] rfl rfl (by decide) (by decide) (fun H locs hw => ?_)
    have hw : mm_w (dC, dI) vwC A s [(h_r, .inr (0, [.ref h_r_kept, .int r_length])), (h_r_kept, .inl (cC, r_kept_n, .inl r_kept))] H locs := hw
    refine lv_icmp_ge (tgt := 25) hx hb d_Row_addWord_7 (by decide) (fun hc => ?_) (fun hc => ?_)
    · replace hf := mm_ip hc hf
      obtain rfl := Option.some.inj hf
      exact mm_vret hx hb hr hlocks hK (mm_wsub hw [0, 1] (by decide) rfl rfl) d_Row_addWord_25
    · replace hf := mm_in hc hf
      refine lv_aload_n hx hb d_Row_addWord_10 rfl (lv_at hl 0 rfl) ?_
      refine lv_aload_n hx hb d_Row_addWord_11 rfl (lv_at hl 1 rfl) ?_
      refine lv_iload_n hx hb d_Row_addWord_12 rfl (lv_at hl 2 rfl) ?_
      obtain ⟨r_2, hu, hf⟩ := mm_b1_ok hf
      refine mm_ci (wr := [(h_r, .inr (0, [.ref h_r_kept, .int r_length])), (h_r_kept, .inl (cC, r_kept_n, .inl r_kept))]) (va_runV (As := [.int x2]) (rest := [.ref h_r]) ⟨hx, hb, hml, hown, hts⟩ (c_String_charAt l Zo dC dI cC cI cJ cQ k x2 h_k_lt  H.size r_2 hu) (cwV 1 hts (mm_gV q_474 q_475 q_476 q_69 q_477) rfl rfl rfl (by decide +kernel) ⟨Nat.le_of_ble_eq_true rfl, Nat.le_of_ble_eq_true rfl⟩) (mm_pvR Zo.1 hK hw hZ hA [] (by decide) rfl rfl (vk_recv ((Zo.2 _ _ _ hZ).2.2.1) h_k_lt hw.2.2)) rfl rfl hl.1 rfl (lv_room (Nat.le_of_ble_eq_true rfl)) d_Row_addWord_13 ⟨Nat.le_refl _, Nat.le_refl _⟩) hw hA [] [0, 1] rfl rfl (by decide) (by decide) (fun H locs hw => ?_)
      have hw : mm_w (dC, dI) vwC A s [(h_r, .inr (0, [.ref h_r_kept, .int r_length])), (h_r_kept, .inl (cC, r_kept_n, .inl r_kept))] H locs := hw
      obtain ⟨o_3, o_4, hu, hf⟩ := mm_b2_ok hf
      refine mm_cv (wr := []) (va_runV (As := [.int r_2]) (rest := []) ⟨hx, hb, hml, hown, hts⟩ (c_Row_add l Zo dC dI cC cI cJ cQ r_kept_n r_kept r_length r_2 h_r h_r_kept H.size (o_3, o_4) hu) (cwV 1 hts (mm_gV q_494 q_459 q_460 q_55 q_461) rfl rfl rfl (by decide +kernel) ⟨Nat.le_of_ble_eq_true rfl, Nat.le_of_ble_eq_true rfl⟩) (mm_pv Zo.1 hK hw hZ hA [0, 1] (by decide) rfl rfl (ci := 0) (q0 := 0) rfl rfl) rfl rfl hl.1 rfl (lv_room (Nat.le_of_ble_eq_true rfl)) d_Row_addWord_16 ⟨Nat.le_refl _, Nat.le_refl _⟩) hw hA [0, 1] [] rfl rfl (by decide) (by decide) (fun H locs hw => ?_)
      have hw : mm_w (dC, dI) vwC A s [(h_r, .inr (0, [.ref h_r_kept, .int o_4])), (h_r_kept, .inl (cC, r_kept_n, .inl o_3))] H locs := hw
      refine lv_iinc (v := x2 + (1 : Int32)) (lv' := [(2, .int (x2 + (1 : Int32))), (0, .ref h_r), (1, .ref (adK k))]) hx hb d_Row_addWord_19 hl (k := 2) rfl rfl (by decide) rfl (fun ls hl => ?_)
      refine lv_goto (tgt := 2) hx hb d_Row_addWord_22 (by decide) ?_
      exact ih o_3 o_4 (x2 + (1 : Int32)) hf _ _ hw _ (lv_sub hl [1, 2, 0] rfl)
set_option maxHeartbeats 4000000 in
set_option maxRecDepth 100000 in
theorem c_Row_addWord (l : Launch) {Z : (Nat → Prop) → State → Heap → Prop} {ad adK adV : Nat → Nat} (Zo : mm_Zx Z ad adK adV) (dC : Nat → ClassId) (dI : Nat → Nat → Nat) (cC cI cJ cQ : ClassId) (N : Nat) (r_kept_n : Nat) (r_kept : Nat → Int32) (r_length : Int32) (k : Nat) (h_k_lt : k < NK) (h_r h_r_kept : Nat) (sz : Nat) (out : (Nat → Int32) × Int32) (hf : f_Row_addWord N r_kept_n r_kept r_length k = some out) : Met l y_Row_addWord w_Row_addWord r_Row_addWord (mm_pre (dC, dI) vwC (tyl cC cI cJ cQ) Z [(h_r, .inr (0, [.ref h_r_kept, .int r_length])), (h_r_kept, .inl (cC, r_kept_n, .inl r_kept))] sz [.ref h_r, .ref (adK k)]) (mm_qv (dC, dI) vwC (tyl cC cI cJ cQ) (va_A [(h_r, .inr (0, [.ref h_r_kept, .int r_length])), (h_r_kept, .inl (cC, r_kept_n, .inl r_kept))] sz) [(h_r, .inr (0, [.ref h_r_kept, .int out.2])), (h_r_kept, .inl (cC, r_kept_n, .inl out.1))]) 0 0 (va_A [(h_r, .inr (0, [.ref h_r_kept, .int r_length])), (h_r_kept, .inl (cC, r_kept_n, .inl r_kept))] sz) := by
  refine mm_of (own := "DirectivePrinter$Row") (cc := b_Row_addWord) (maxL := 3) (ret := none) (by decide) rfl rfl ?_
  intro p e s m below meth c hsz C0 hw hname
  generalize (va_A [(h_r, .inr (0, [.ref h_r_kept, .int r_length])), (h_r_kept, .inl (cC, r_kept_n, .inl r_kept))] sz) = A at C0 hw ⊢
  have hl := lv_entry ([.ref h_r, .ref (adK k)]) (n := 3) (Nat.le_of_ble_eq_true rfl)
  rw [lg_entry_eq]
  generalize (lg_sl ([.ref h_r, .ref (adK k)]) ++ List.replicate (3 - (lg_sl ([.ref h_r, .ref (adK k)])).length) Slot.unset).toArray = ls at hl ⊢
  have hl : lv_has ls 3 [(0, .ref h_r), (1, .ref (adK k))] := hl
  obtain ⟨hx, hb, hr, hml, hown, hts, hlocks, hK, hZ, hA⟩ := id C0
  generalize s.heap = H at hw ⊢
  unfold f_Row_addWord at hf
  refine lv_iconst (v := (0 : Int32)) hx hb d_Row_addWord_0 (by decide) ?_
  refine lv_istore_n (lv' := [(2, .int (0 : Int32)), (0, .ref h_r), (1, .ref (adK k))]) hx hb d_Row_addWord_1 rfl hl (by decide) rfl (fun ls hl => ?_)
  exact b_Row_addWord_2 Zo C0 N r_kept_n k h_k_lt out N r_kept r_length (0 : Int32) hf _ _ hw _ (lv_sub hl [1, 2, 0] rfl)
/-! DirectivePrinter$Figures.sign(I)C -/
def f_Figures_sign_35 (y0 : Int32) : Option (Int32) := (if y0 < 0 then some ((48 : Int32)) else mm_b1 (f_String_length (6)) (fun r_1 => (if r_1 ≤ y0 then some ((48 : Int32)) else mm_b1 (f_String_charAt (6) y0) (fun r_2 => (if mm_c r_2 = r_2 then some (r_2) else none)))))
def f_Figures_sign_34 : Option (Int32) := f_Figures_sign_35 (0 : Int32)
def f_Figures_sign (g_digits_n : Nat) (g_digits : Nat → Int32) (g_count : Int32) (g_scale : Int32) (power : Int32) : Option (Int32) := (if (power + g_scale) < 0 then f_Figures_sign_34  else (if g_count ≤ (power + g_scale) then f_Figures_sign_34  else (if (24 : Int32) ≤ (power + g_scale) then f_Figures_sign_34  else (if (power + g_scale) < 0 ∨ g_digits_n ≤ (power + g_scale).toNatClampNeg then none else f_Figures_sign_35 (g_digits (power + g_scale).toNatClampNeg)))))
abbrev r_Figures_sign : Room := { frames := 4, cells := 0, slots := 0, locals := 85 }
set_option maxHeartbeats 4000000 in
set_option maxRecDepth 100000 in
theorem b_Figures_sign_35 {h_g h_g_digits : Nat} (Zo : mm_Zx Z ad adK adV) (C0 : mm_cx (dC, dI) vwC (tyl cC cI cJ cQ) Z p s m args meth c b_Figures_sign 4 (some .char) "DirectivePrinter$Figures" w_Figures_sign A) (g_digits_n : Nat) (g_digits : Nat → Int32) (g_count : Int32) (g_scale : Int32) (power : Int32) (out : Int32) : ∀ (y0 : Int32), f_Figures_sign_35  y0 = some out → ∀ (H : Heap) (locs : List Loc), mm_w (dC, dI) vwC A s [(h_g, .inr (1, [.ref h_g_digits, .int g_count, .int g_scale])), (h_g_digits, .inl (cI, g_digits_n, .inl g_digits))] H locs → ∀ (ls : Array Slot), lv_has ls 4 [] → W p l e r_Figures_sign s m args below meth c H locs 0 0 (MQ below (mm_qi (dC, dI) vwC (tyl cC cI cJ cQ) A [(h_g, .inr (1, [.ref h_g_digits, .int g_count, .int g_scale])), (h_g_digits, .inl (cI, g_digits_n, .inl g_digits))] out) args s 0 0 A) (F0 m 35 ls [.int y0]) := by
  obtain ⟨hx, hb, hr, hml, hown, hts, hlocks, hK, hZ, hA⟩ := id C0
  intro y0 hf H locs hw ls hl
  unfold f_Figures_sign_35 at hf
  refine lv_istore_n (lv' := [(3, .int y0)]) hx hb d_Figures_sign_35 rfl hl (by decide) rfl (fun ls hl => ?_)
  refine lv_iload_n hx hb d_Figures_sign_36 rfl (lv_at hl 0 rfl) ?_
  refine lv_if_lt (tgt := 58) hx hb d_Figures_sign_37 (by decide) (fun hc => ?_) (fun hc => ?_)
  · replace hf := mm_ip hc hf
    refine lv_bipush (v := (48 : Int32)) hx hb d_Figures_sign_58 (by decide) ?_
    obtain rfl := Option.some.inj hf
    exact mm_zret hx hb hr hlocks hK (by decide) (mm_wsub hw [0, 1] (by decide) rfl rfl) rfl d_Figures_sign_60
  · replace hf := mm_in hc hf
    refine lv_iload_n hx hb d_Figures_sign_40 rfl (lv_at hl 0 rfl) ?_
    refine va_ldcS hx hb hown ((Zo.2 _ _ _ hZ).2.2.2.1 6 (by decide)) d_Figures_sign_41 ?_
    obtain ⟨r_1, hu, hf⟩ := mm_b1_ok hf
    refine mm_ci (wr := [(h_g, .inr (1, [.ref h_g_digits, .int g_count, .int g_scale])), (h_g_digits, .inl (cI, g_digits_n, .inl g_digits))]) (va_runV (As := []) (rest := [.int y0]) ⟨hx, hb, hml, hown, hts⟩ (c_String_length l Zo dC dI cC cI cJ cQ (6) (by decide)  H.size r_1 hu) (cwV 0 hts (mm_gV q_542 q_322 q_323 q_69 q_324) rfl rfl rfl (by decide +kernel) ⟨Nat.le_of_ble_eq_true rfl, Nat.le_of_ble_eq_true rfl⟩) (mm_pvR Zo.1 hK hw hZ hA [] (by decide) rfl rfl (vk_recv ((Zo.2 _ _ _ hZ).2.2.1) (by decide) hw.2.2)) rfl rfl hl.1 rfl (lv_room (Nat.le_of_ble_eq_true rfl)) d_Figures_sign_43 ⟨Nat.le_refl _, Nat.le_refl _⟩) hw hA [] [0, 1] rfl rfl (by decide) (by decide) (fun H locs hw => ?_)
    have hw : mm_w (dC, dI) vwC A s [(h_g, .inr (1, [.ref h_g_digits, .int g_count, .int g_scale])), (h_g_digits, .inl (cI, g_digits_n, .inl g_digits))] H locs := hw
    refine lv_icmp_ge (tgt := 58) hx hb d_Figures_sign_46 (by decide) (fun hc => ?_) (fun hc => ?_)
    · replace hf := mm_ip hc hf
      refine lv_bipush (v := (48 : Int32)) hx hb d_Figures_sign_58 (by decide) ?_
      obtain rfl := Option.some.inj hf
      exact mm_zret hx hb hr hlocks hK (by decide) (mm_wsub hw [0, 1] (by decide) rfl rfl) rfl d_Figures_sign_60
    · replace hf := mm_in hc hf
      refine va_ldcS hx hb hown ((Zo.2 _ _ _ hZ).2.2.2.1 6 (by decide)) d_Figures_sign_49 ?_
      refine lv_iload_n hx hb d_Figures_sign_51 rfl (lv_at hl 0 rfl) ?_
      obtain ⟨r_2, hu, hf⟩ := mm_b1_ok hf
      refine mm_ci (wr := [(h_g, .inr (1, [.ref h_g_digits, .int g_count, .int g_scale])), (h_g_digits, .inl (cI, g_digits_n, .inl g_digits))]) (va_runV (As := [.int y0]) (rest := []) ⟨hx, hb, hml, hown, hts⟩ (c_String_charAt l Zo dC dI cC cI cJ cQ (6) y0 (by decide)  H.size r_2 hu) (cwV 1 hts (mm_gV q_543 q_475 q_476 q_69 q_477) rfl rfl rfl (by decide +kernel) ⟨Nat.le_of_ble_eq_true rfl, Nat.le_of_ble_eq_true rfl⟩) (mm_pvR Zo.1 hK hw hZ hA [] (by decide) rfl rfl (vk_recv ((Zo.2 _ _ _ hZ).2.2.1) (by decide) hw.2.2)) rfl rfl hl.1 rfl (lv_room (Nat.le_of_ble_eq_true rfl)) d_Figures_sign_52 ⟨Nat.le_refl _, Nat.le_refl _⟩) hw hA [] [0, 1] rfl rfl (by decide) (by decide) (fun H locs hw => ?_)
      have hw : mm_w (dC, dI) vwC A s [(h_g, .inr (1, [.ref h_g_digits, .int g_count, .int g_scale])), (h_g_digits, .inl (cI, g_digits_n, .inl g_digits))] H locs := hw
      refine lv_goto (tgt := 60) hx hb d_Figures_sign_55 (by decide) ?_
      obtain ⟨hz, hf⟩ := mm_ask hf
      obtain rfl := Option.some.inj hf
      exact mm_zret hx hb hr hlocks hK (mm_narC hz) (mm_wsub hw [0, 1] (by decide) rfl rfl) rfl d_Figures_sign_60
set_option maxHeartbeats 4000000 in
set_option maxRecDepth 100000 in
theorem b_Figures_sign_34 {h_g h_g_digits : Nat} (Zo : mm_Zx Z ad adK adV) (C0 : mm_cx (dC, dI) vwC (tyl cC cI cJ cQ) Z p s m args meth c b_Figures_sign 4 (some .char) "DirectivePrinter$Figures" w_Figures_sign A) (g_digits_n : Nat) (g_digits : Nat → Int32) (g_count : Int32) (g_scale : Int32) (power : Int32) (out : Int32) : f_Figures_sign_34   = some out → ∀ (H : Heap) (locs : List Loc), mm_w (dC, dI) vwC A s [(h_g, .inr (1, [.ref h_g_digits, .int g_count, .int g_scale])), (h_g_digits, .inl (cI, g_digits_n, .inl g_digits))] H locs → ∀ (ls : Array Slot), lv_has ls 4 [] → W p l e r_Figures_sign s m args below meth c H locs 0 0 (MQ below (mm_qi (dC, dI) vwC (tyl cC cI cJ cQ) A [(h_g, .inr (1, [.ref h_g_digits, .int g_count, .int g_scale])), (h_g_digits, .inl (cI, g_digits_n, .inl g_digits))] out) args s 0 0 A) (F0 m 34 ls []) := by
  obtain ⟨hx, hb, hr, hml, hown, hts, hlocks, hK, hZ, hA⟩ := id C0
  intro  hf H locs hw ls hl
  unfold f_Figures_sign_34 at hf
  refine lv_iconst (v := (0 : Int32)) hx hb d_Figures_sign_34 (by decide) ?_
  exact b_Figures_sign_35 Zo C0 g_digits_n g_digits g_count g_scale power  out (0 : Int32) hf _ _ hw _ hl
set_option maxHeartbeats 4000000 in
set_option maxRecDepth 100000 in
theorem c_Figures_sign (l : Launch) {Z : (Nat → Prop) → State → Heap → Prop} {ad adK adV : Nat → Nat} (Zo : mm_Zx Z ad adK adV) (dC : Nat → ClassId) (dI : Nat → Nat → Nat) (cC cI cJ cQ : ClassId) (g_digits_n : Nat) (g_digits : Nat → Int32) (g_count : Int32) (g_scale : Int32) (power : Int32) (h_g h_g_digits : Nat) (sz : Nat) (out : Int32) (hf : f_Figures_sign g_digits_n g_digits g_count g_scale power = some out) : Met l y_Figures_sign w_Figures_sign r_Figures_sign (mm_pre (dC, dI) vwC (tyl cC cI cJ cQ) Z [(h_g, .inr (1, [.ref h_g_digits, .int g_count, .int g_scale])), (h_g_digits, .inl (cI, g_digits_n, .inl g_digits))] sz [.ref h_g, .int power]) (mm_qi (dC, dI) vwC (tyl cC cI cJ cQ) (va_A [(h_g, .inr (1, [.ref h_g_digits, .int g_count, .int g_scale])), (h_g_digits, .inl (cI, g_digits_n, .inl g_digits))] sz) [(h_g, .inr (1, [.ref h_g_digits, .int g_count, .int g_scale])), (h_g_digits, .inl (cI, g_digits_n, .inl g_digits))] out) 0 0 (va_A [(h_g, .inr (1, [.ref h_g_digits, .int g_count, .int g_scale])), (h_g_digits, .inl (cI, g_digits_n, .inl g_digits))] sz) := by
  refine mm_of (own := "DirectivePrinter$Figures") (cc := b_Figures_sign) (maxL := 4) (ret := (some .char)) (by decide) rfl rfl ?_
  intro p e s m below meth c hsz C0 hw hname
  generalize (va_A [(h_g, .inr (1, [.ref h_g_digits, .int g_count, .int g_scale])), (h_g_digits, .inl (cI, g_digits_n, .inl g_digits))] sz) = A at C0 hw ⊢
  have hl := lv_entry ([.ref h_g, .int power]) (n := 4) (Nat.le_of_ble_eq_true rfl)
  rw [lg_entry_eq]
  generalize (lg_sl ([.ref h_g, .int power]) ++ List.replicate (4 - (lg_sl ([.ref h_g, .int power])).length) Slot.unset).toArray = ls at hl ⊢
  have hl : lv_has ls 4 [(0, .ref h_g), (1, .int power)] := hl
  obtain ⟨hx, hb, hr, hml, hown, hts, hlocks, hK, hZ, hA⟩ := id C0
  generalize s.heap = H at hw ⊢
  unfold f_Figures_sign at hf
  refine lv_iload_n hx hb d_Figures_sign_0 rfl (lv_at hl 1 rfl) ?_
  refine lv_aload_n hx hb d_Figures_sign_1 rfl (lv_at hl 0 rfl) ?_
  refine va_get (D := (dC, dI)) (ci := 1) (v := .int g_scale) (C := "DirectivePrinter$Figures") (T := T_Figures) (N := 3) hx hb hts (mm_up i_Figures) hown hK hw.1 0 rfl rfl 2 (by decide) (hts _ (List.mem_cons_of_mem _ q_178)) (fun _ h9 => h9) rfl d_Figures_sign_2 ?_
  refine lv_iadd hx hb d_Figures_sign_5 ?_
  refine lv_istore_n (lv' := [(2, .int (power + g_scale)), (0, .ref h_g), (1, .int power)]) hx hb d_Figures_sign_6 rfl hl (by decide) rfl (fun ls hl => ?_)
  refine lv_iload_n hx hb d_Figures_sign_7 rfl (lv_at hl 0 rfl) ?_
  refine lv_if_lt (tgt := 34) hx hb d_Figures_sign_8 (by decide) (fun hc => ?_) (fun hc => ?_)
  · replace hf := mm_ip hc hf
    exact b_Figures_sign_34 Zo C0 g_digits_n g_digits g_count g_scale power  out  hf _ _ hw _ (lv_sub hl [] rfl)
  · replace hf := mm_in hc hf
    refine lv_iload_n hx hb d_Figures_sign_11 rfl (lv_at hl 0 rfl) ?_
    refine lv_aload_n hx hb d_Figures_sign_12 rfl (lv_at hl 1 rfl) ?_
    refine va_get (D := (dC, dI)) (ci := 1) (v := .int g_count) (C := "DirectivePrinter$Figures") (T := T_Figures) (N := 3) hx hb hts (mm_up i_Figures) hown hK hw.1 0 rfl rfl 1 (by decide) (hts _ (List.mem_cons_of_mem _ q_177)) (fun _ h9 => h9) rfl d_Figures_sign_13 ?_
    refine lv_icmp_ge (tgt := 34) hx hb d_Figures_sign_16 (by decide) (fun hc => ?_) (fun hc => ?_)
    · replace hf := mm_ip hc hf
      exact b_Figures_sign_34 Zo C0 g_digits_n g_digits g_count g_scale power  out  hf _ _ hw _ (lv_sub hl [] rfl)
    · replace hf := mm_in hc hf
      refine lv_iload_n hx hb d_Figures_sign_19 rfl (lv_at hl 0 rfl) ?_
      refine lv_bipush (v := (24 : Int32)) hx hb d_Figures_sign_20 (by decide) ?_
      refine lv_icmp_ge (tgt := 34) hx hb d_Figures_sign_22 (by decide) (fun hc => ?_) (fun hc => ?_)
      · replace hf := mm_ip hc hf
        exact b_Figures_sign_34 Zo C0 g_digits_n g_digits g_count g_scale power  out  hf _ _ hw _ (lv_sub hl [] rfl)
      · replace hf := mm_in hc hf
        refine lv_aload_n hx hb d_Figures_sign_25 rfl (lv_at hl 1 rfl) ?_
        refine va_get (D := (dC, dI)) (ci := 1) (v := .ref h_g_digits) (C := "DirectivePrinter$Figures") (T := T_Figures) (N := 3) hx hb hts (mm_up i_Figures) hown hK hw.1 0 rfl rfl 0 (by decide) (hts _ (List.mem_cons_of_mem _ q_176)) (fun _ h9 => h9) rfl d_Figures_sign_26 ?_
        refine lv_iload_n hx hb d_Figures_sign_29 rfl (lv_at hl 0 rfl) ?_
        obtain ⟨hz, hf⟩ := mm_grd hf
        refine va_iald hx hb hK hw.1 1 1 rfl rfl hz d_Figures_sign_30 ?_
        refine lv_goto (tgt := 35) hx hb d_Figures_sign_31 (by decide) ?_
        exact b_Figures_sign_35 Zo C0 g_digits_n g_digits g_count g_scale power  out (g_digits (power + g_scale).toNatClampNeg) hf _ _ hw _ (lv_sub hl [] rfl)
/-! DirectivePrinter$Directive.readFlags(LDirectivePrinter$Row;)V -/
def f_Directive_readFlags_15 (N : Nat) (r_kept_n : Nat) (r_kept : Nat → Int32) (r_length : Int32) : Nat → Int32 → Int32 → Int32 → Int32 → Option (Int32 × Int32 × Int32)
  | 0, _, _, _, _ => none
  | fu + 1, d_flags, d_flagTwice, d_next, x2 => (if x2 ≤ d_next then some (d_flags, d_flagTwice, d_next) else mm_b1 (f_Row_at r_kept_n r_kept r_length d_next) (fun r_2 => mm_b1 (f_String_indexOf N (0) (mm_c r_2)) (fun r_3 => (if 0 ≤ r_3 then (if d_flagTwice = 0 then mm_b1 (f_Directive_has d_flags ((1 : Int32) <<< (r_3 &&& 31))) (fun r_4 => (if r_4 = 0 then f_Directive_readFlags_15 N r_kept_n r_kept r_length fu (d_flags ||| ((1 : Int32) <<< (r_3 &&& 31))) (0 : Int32) (d_next + (1 : Int32)) x2 else f_Directive_readFlags_15 N r_kept_n r_kept r_length fu (d_flags ||| ((1 : Int32) <<< (r_3 &&& 31))) (1 : Int32) (d_next + (1 : Int32)) x2)) else f_Directive_readFlags_15 N r_kept_n r_kept r_length fu (d_flags ||| ((1 : Int32) <<< (r_3 &&& 31))) (1 : Int32) (d_next + (1 : Int32)) x2) else some (d_flags, d_flagTwice, d_next)))))
def f_Directive_readFlags (N : Nat) (d_next : Int32) (r_kept_n : Nat) (r_kept : Nat → Int32) (r_length : Int32) : Option (Int32 × Int32 × Int32) := mm_b1 (f_Row_size r_length) (fun r_1 => f_Directive_readFlags_15 N r_kept_n r_kept r_length N (0 : Int32) (0 : Int32) d_next r_1)
abbrev r_Directive_readFlags : Room := { frames := 4, cells := 0, slots := 0, locals := 91 }
set_option maxHeartbeats 4000000 in
set_option maxRecDepth 100000 in
theorem b_Directive_readFlags_15 {h_d h_r h_r_kept : Nat} (Zo : mm_Zx Z ad adK adV) (C0 : mm_cx (dC, dI) vwC (tyl cC cI cJ cQ) Z p s m args meth c b_Directive_readFlags 5 none "DirectivePrinter$Directive" w_Directive_readFlags A) (N : Nat) (d_index : Int32) (d_width : Int32) (d_precision : Int32) (d_conversion : Int32) (r_kept_n : Nat) (r_kept : Nat → Int32) (r_length : Int32) (out : Int32 × Int32 × Int32) : ∀ (fuel : Nat) (d_flags : Int32) (d_flagTwice : Int32) (d_next : Int32) (x2 : Int32), f_Directive_readFlags_15 N r_kept_n r_kept r_length fuel d_flags d_flagTwice d_next x2 = some out → ∀ (H : Heap) (locs : List Loc), mm_w (dC, dI) vwC A s [(h_d, .inr (2, [.int d_index, .int d_flags, .int d_flagTwice, .int d_width, .int d_precision, .int d_conversion, .int d_next])), (h_r, .inr (0, [.ref h_r_kept, .int r_length])), (h_r_kept, .inl (cC, r_kept_n, .inl r_kept))] H locs → ∀ (ls : Array Slot), lv_has ls 5 [(0, .ref h_d), (1, .ref h_r), (2, .int x2)] → W p l e r_Directive_readFlags s m args below meth c H locs 0 0 (MQ below (mm_qv (dC, dI) vwC (tyl cC cI cJ cQ) A [(h_d, .inr (2, [.int d_index, .int out.1, .int out.2.1, .int d_width, .int d_precision, .int d_conversion, .int out.2.2])), (h_r, .inr (0, [.ref h_r_kept, .int r_length])), (h_r_kept, .inl (cC, r_kept_n, .inl r_kept))]) args s 0 0 A) (F0 m 15 ls []) := by
  obtain ⟨hx, hb, hr, hml, hown, hts, hlocks, hK, hZ, hA⟩ := id C0
  intro fuel
  induction fuel with
  | zero =>
    intro d_flags d_flagTwice d_next x2 hf
    cases (show (none : Option (Int32 × Int32 × Int32)) = some out from hf)
  | succ fu ih =>
    intro d_flags d_flagTwice d_next x2 hf H locs hw ls hl
    unfold f_Directive_readFlags_15 at hf
    refine lv_aload_n hx hb d_Directive_readFlags_15 rfl (lv_at hl 0 rfl) ?_
    refine va_get (D := (dC, dI)) (ci := 2) (v := .int d_next) (C := "DirectivePrinter$Directive") (T := T_Directive) (N := 7) hx hb hts (mm_up i_Directive) hown hK hw.1 0 rfl rfl 6 (by decide) (hts _ (List.mem_cons_of_mem _ q_146)) (fun _ h9 => h9) rfl d_Directive_readFlags_16 ?_
    refine lv_iload_n hx hb d_Directive_readFlags_19 rfl (lv_at hl 2 rfl) ?_
    refine lv_icmp_ge (tgt := 97) hx hb d_Directive_readFlags_20 (by decide) (fun hc => ?_) (fun hc => ?_)
    · replace hf := mm_ip hc hf
      obtain rfl := Option.some.inj hf
      exact mm_vret hx hb hr hlocks hK (mm_wsub hw [0, 1, 2] (by decide) rfl rfl) d_Directive_readFlags_97
    · replace hf := mm_in hc hf
      refine va_ldcS hx hb hown ((Zo.2 _ _ _ hZ).2.2.2.1 0 (by decide)) d_Directive_readFlags_23 ?_
      refine lv_aload_n hx hb d_Directive_readFlags_25 rfl (lv_at hl 1 rfl) ?_
      refine lv_aload_n hx hb d_Directive_readFlags_26 rfl (lv_at hl 0 rfl) ?_
      refine va_get (D := (dC, dI)) (ci := 2) (v := .int d_next) (C := "DirectivePrinter$Directive") (T := T_Directive) (N := 7) hx hb hts (mm_up i_Directive) hown hK hw.1 0 rfl rfl 6 (by decide) (hts _ (List.mem_cons_of_mem _ q_146)) (fun _ h9 => h9) rfl d_Directive_readFlags_27 ?_
      obtain ⟨r_2, hu, hf⟩ := mm_b1_ok hf
      refine mm_ci (wr := [(h_d, .inr (2, [.int d_index, .int d_flags, .int d_flagTwice, .int d_width, .int d_precision, .int d_conversion, .int d_next]))]) (va_runV (As := [.int d_next]) (rest := [.ref (adK (0))]) ⟨hx, hb, hml, hown, hts⟩ (c_Row_at l Zo dC dI cC cI cJ cQ r_kept_n r_kept r_length d_next h_r h_r_kept H.size r_2 hu) (cwV 1 hts (mm_gV q_289 q_274 q_275 q_55 q_276) rfl rfl rfl (by decide +kernel) ⟨Nat.le_of_ble_eq_true rfl, Nat.le_of_ble_eq_true rfl⟩) (mm_pv Zo.1 hK hw hZ hA [1, 2] (by decide) rfl rfl (ci := 0) (q0 := 0) rfl rfl) rfl rfl hl.1 rfl (lv_room (Nat.le_of_ble_eq_true rfl)) d_Directive_readFlags_30 ⟨Nat.le_refl _, Nat.le_refl _⟩) hw hA [1, 2] [0] rfl rfl (by decide) (by decide) (fun H locs hw => ?_)
      have hw : mm_w (dC, dI) vwC A s [(h_d, .inr (2, [.int d_index, .int d_flags, .int d_flagTwice, .int d_width, .int d_precision, .int d_conversion, .int d_next])), (h_r, .inr (0, [.ref h_r_kept, .int r_length])), (h_r_kept, .inl (cC, r_kept_n, .inl r_kept))] H locs := hw
      refine lv_i2c (v := mm_c r_2) hx hb d_Directive_readFlags_33 rfl ?_
      obtain ⟨r_3, hu, hf⟩ := mm_b1_ok hf
      refine mm_ci (wr := [(h_d, .inr (2, [.int d_index, .int d_flags, .int d_flagTwice, .int d_width, .int d_precision, .int d_conversion, .int d_next])), (h_r, .inr (0, [.ref h_r_kept, .int r_length])), (h_r_kept, .inl (cC, r_kept_n, .inl r_kept))]) (va_runV (As := [.int (mm_c r_2)]) (rest := []) ⟨hx, hb, hml, hown, hts⟩ (c_String_indexOf l Zo dC dI cC cI cJ cQ N (0) (mm_c r_2) (by decide)  H.size r_3 hu) (cwV 1 hts (mm_gV q_307 q_308 q_309 q_69 q_310) rfl rfl rfl (by decide +kernel) ⟨Nat.le_of_ble_eq_true rfl, Nat.le_of_ble_eq_true rfl⟩) (mm_pvR Zo.1 hK hw hZ hA [] (by decide) rfl rfl (vk_recv ((Zo.2 _ _ _ hZ).2.2.1) (by decide) hw.2.2)) rfl rfl hl.1 rfl (lv_room (Nat.le_of_ble_eq_true rfl)) d_Directive_readFlags_34 ⟨Nat.le_refl _, Nat.le_refl _⟩) hw hA [] [0, 1, 2] rfl rfl (by decide) (by decide) (fun H locs hw => ?_)
      have hw : mm_w (dC, dI) vwC A s [(h_d, .inr (2, [.int d_index, .int d_flags, .int d_flagTwice, .int d_width, .int d_precision, .int d_conversion, .int d_next])), (h_r, .inr (0, [.ref h_r_kept, .int r_length])), (h_r_kept, .inl (cC, r_kept_n, .inl r_kept))] H locs := hw
      refine lv_istore_n (lv' := [(3, .int r_3), (0, .ref h_d), (1, .ref h_r), (2, .int x2)]) hx hb d_Directive_readFlags_37 rfl hl (by decide) rfl (fun ls hl => ?_)
      refine lv_iload_n hx hb d_Directive_readFlags_38 rfl (lv_at hl 0 rfl) ?_
      refine lv_if_ge (tgt := 43) hx hb d_Directive_readFlags_39 (by decide) (fun hc => ?_) (fun hc => ?_)
      · replace hf := mm_ip hc hf
        refine lv_iconst (v := (1 : Int32)) hx hb d_Directive_readFlags_43 (by decide) ?_
        refine lv_iload_n hx hb d_Directive_readFlags_44 rfl (lv_at hl 0 rfl) ?_
        refine lv_ishl hx hb d_Directive_readFlags_45 ?_
        refine lv_istore (lv' := [(4, .int ((1 : Int32) <<< (r_3 &&& 31))), (3, .int r_3), (0, .ref h_d), (1, .ref h_r), (2, .int x2)]) hx hb d_Directive_readFlags_46 hl (by decide) rfl (fun ls hl => ?_)
        refine lv_aload_n hx hb d_Directive_readFlags_48 rfl (lv_at hl 2 rfl) ?_
        refine lv_aload_n hx hb d_Directive_readFlags_49 rfl (lv_at hl 2 rfl) ?_
        refine va_get (D := (dC, dI)) (ci := 2) (v := .int d_flagTwice) (C := "DirectivePrinter$Directive") (T := T_Directive) (N := 7) hx hb hts (mm_up i_Directive) hown hK hw.1 0 rfl rfl 2 (by decide) (hts _ (List.mem_cons_of_mem _ q_140)) (fun _ h9 => h9) rfl d_Directive_readFlags_50 ?_
        refine lv_if_ne (tgt := 65) hx hb d_Directive_readFlags_53 (by decide) (fun hc => ?_) (fun hc => ?_)
        · replace hf := mm_in hc hf
          refine lv_iconst (v := (1 : Int32)) hx hb d_Directive_readFlags_65 (by decide) ?_
          refine lv_goto (tgt := 70) hx hb d_Directive_readFlags_66 (by decide) ?_
          refine va_put (D := (dC, dI)) (ci := 2) (v := .int (1 : Int32)) (ty := .boolean) (C := "DirectivePrinter$Directive") (T := T_Directive) (N := 7) hx hb hts (mm_up i_Directive) t_Directive t_Directive_ok n_Directive hown hK hw.1 hw.2.1 hw.2.2 0 rfl rfl 2 (by decide) (hts _ (List.mem_cons_of_mem _ q_140)) (fun _ h9 => h9) rfl (by decide +kernel) (by decide) (by decide) (Nat.le_of_ble_eq_true rfl) d_Directive_readFlags_70 (fun H locs hP hD hS => ?_)
          have hw : mm_w (dC, dI) vwC A s [(h_d, .inr (2, [.int d_index, .int d_flags, .int (1 : Int32), .int d_width, .int d_precision, .int d_conversion, .int d_next])), (h_r, .inr (0, [.ref h_r_kept, .int r_length])), (h_r_kept, .inl (cC, r_kept_n, .inl r_kept))] H locs := ⟨hP, hD, hS⟩
          refine lv_aload_n hx hb d_Directive_readFlags_73 rfl (lv_at hl 2 rfl) ?_
          refine lv_aload_n hx hb d_Directive_readFlags_74 rfl (lv_at hl 2 rfl) ?_
          refine va_get (D := (dC, dI)) (ci := 2) (v := .int d_flags) (C := "DirectivePrinter$Directive") (T := T_Directive) (N := 7) hx hb hts (mm_up i_Directive) hown hK hw.1 0 rfl rfl 1 (by decide) (hts _ (List.mem_cons_of_mem _ q_139)) (fun _ h9 => h9) rfl d_Directive_readFlags_75 ?_
          refine lv_iload hx hb d_Directive_readFlags_78 (lv_at hl 0 rfl) ?_
          refine lv_ior hx hb d_Directive_readFlags_80 ?_
          refine va_put (D := (dC, dI)) (ci := 2) (v := .int (d_flags ||| ((1 : Int32) <<< (r_3 &&& 31)))) (ty := .int) (C := "DirectivePrinter$Directive") (T := T_Directive) (N := 7) hx hb hts (mm_up i_Directive) t_Directive t_Directive_ok n_Directive hown hK hw.1 hw.2.1 hw.2.2 0 rfl rfl 1 (by decide) (hts _ (List.mem_cons_of_mem _ q_139)) (fun _ h9 => h9) rfl (by decide +kernel) rfl rfl (Nat.le_of_ble_eq_true rfl) d_Directive_readFlags_81 (fun H locs hP hD hS => ?_)
          have hw : mm_w (dC, dI) vwC A s [(h_d, .inr (2, [.int d_index, .int (d_flags ||| ((1 : Int32) <<< (r_3 &&& 31))), .int (1 : Int32), .int d_width, .int d_precision, .int d_conversion, .int d_next])), (h_r, .inr (0, [.ref h_r_kept, .int r_length])), (h_r_kept, .inl (cC, r_kept_n, .inl r_kept))] H locs := ⟨hP, hD, hS⟩
          refine lv_aload_n hx hb d_Directive_readFlags_84 rfl (lv_at hl 2 rfl) ?_
          refine lv_dup hx hb d_Directive_readFlags_85 rfl ?_
          refine va_get (D := (dC, dI)) (ci := 2) (v := .int d_next) (C := "DirectivePrinter$Directive") (T := T_Directive) (N := 7) hx hb hts (mm_up i_Directive) hown hK hw.1 0 rfl rfl 6 (by decide) (hts _ (List.mem_cons_of_mem _ q_146)) (fun _ h9 => h9) rfl d_Directive_readFlags_86 ?_
          refine lv_iconst (v := (1 : Int32)) hx hb d_Directive_readFlags_89 (by decide) ?_
          refine lv_iadd hx hb d_Directive_readFlags_90 ?_
          refine va_put (D := (dC, dI)) (ci := 2) (v := .int (d_next + (1 : Int32))) (ty := .int) (C := "DirectivePrinter$Directive") (T := T_Directive) (N := 7) hx hb hts (mm_up i_Directive) t_Directive t_Directive_ok n_Directive hown hK hw.1 hw.2.1 hw.2.2 0 rfl rfl 6 (by decide) (hts _ (List.mem_cons_of_mem _ q_146)) (fun _ h9 => h9) rfl (by decide +kernel) rfl rfl (Nat.le_of_ble_eq_true rfl) d_Directive_readFlags_91 (fun H locs hP hD hS => ?_)
          have hw : mm_w (dC, dI) vwC A s [(h_d, .inr (2, [.int d_index, .int (d_flags ||| ((1 : Int32) <<< (r_3 &&& 31))), .int (1 : Int32), .int d_width, .int d_precision, .int d_conversion, .int (d_next + (1 : Int32))])), (h_r, .inr (0, [.ref h_r_kept, .int r_length])), (h_r_kept, .inl (cC, r_kept_n, .inl r_kept))] H locs := ⟨hP, hD, hS⟩
          refine lv_goto (tgt := 15) hx hb d_Directive_readFlags_94 (by decide) ?_
          exact ih (d_flags ||| ((1 : Int32) <<< (r_3 &&& 31))) (1 : Int32) (d_next + (1 : Int32)) x2 hf _ _ hw _ (lv_sub hl [2, 3, 4] rfl)
        · replace hf := mm_ip hc hf
          refine lv_aload_n hx hb d_Directive_readFlags_56 rfl (lv_at hl 2 rfl) ?_
          refine lv_iload hx hb d_Directive_readFlags_57 (lv_at hl 0 rfl) ?_
          obtain ⟨r_4, hu, hf⟩ := mm_b1_ok hf
          refine mm_ci (wr := [(h_r, .inr (0, [.ref h_r_kept, .int r_length])), (h_r_kept, .inl (cC, r_kept_n, .inl r_kept))]) (va_runV (As := [.int ((1 : Int32) <<< (r_3 &&& 31))]) (rest := [.ref h_d]) ⟨hx, hb, hml, hown, hts⟩ (c_Directive_has l Zo dC dI cC cI cJ cQ d_index d_flags d_flagTwice d_width d_precision d_conversion d_next ((1 : Int32) <<< (r_3 &&& 31)) h_d H.size r_4 hu) (cwV 1 hts (mm_gV q_389 q_390 q_391 q_60 q_392) rfl rfl rfl (by decide +kernel) ⟨Nat.le_of_ble_eq_true rfl, Nat.le_of_ble_eq_true rfl⟩) (mm_pv Zo.1 hK hw hZ hA [0] (by decide) rfl rfl (ci := 2) (q0 := 0) rfl rfl) rfl rfl hl.1 rfl (lv_room (Nat.le_of_ble_eq_true rfl)) d_Directive_readFlags_59 ⟨Nat.le_refl _, Nat.le_refl _⟩) hw hA [0] [1, 2] rfl rfl (by decide) (by decide) (fun H locs hw => ?_)
          have hw : mm_w (dC, dI) vwC A s [(h_r, .inr (0, [.ref h_r_kept, .int r_length])), (h_r_kept, .inl (cC, r_kept_n, .inl r_kept)), (h_d, .inr (2, [.int d_index, .int d_flags, .int d_flagTwice, .int d_width, .int d_precision, .int d_conversion, .int d_next]))] H locs := hw
          refine lv_if_eq (tgt := 69) hx hb d_Directive_readFlags_62 (by decide) (fun hc => ?_) (fun hc => ?_)
          · replace hf := mm_ip hc hf
            refine lv_iconst (v := (0 : Int32)) hx hb d_Directive_readFlags_69 (by decide) ?_
            refine va_put (D := (dC, dI)) (ci := 2) (v := .int (0 : Int32)) (ty := .boolean) (C := "DirectivePrinter$Directive") (T := T_Directive) (N := 7) hx hb hts (mm_up i_Directive) t_Directive t_Directive_ok n_Directive hown hK hw.1 hw.2.1 hw.2.2 2 rfl rfl 2 (by decide) (hts _ (List.mem_cons_of_mem _ q_140)) (fun _ h9 => h9) rfl (by decide +kernel) (by decide) (by decide) (Nat.le_of_ble_eq_true rfl) d_Directive_readFlags_70 (fun H locs hP hD hS => ?_)
            have hw : mm_w (dC, dI) vwC A s [(h_r, .inr (0, [.ref h_r_kept, .int r_length])), (h_r_kept, .inl (cC, r_kept_n, .inl r_kept)), (h_d, .inr (2, [.int d_index, .int d_flags, .int (0 : Int32), .int d_width, .int d_precision, .int d_conversion, .int d_next]))] H locs := ⟨hP, hD, hS⟩
            refine lv_aload_n hx hb d_Directive_readFlags_73 rfl (lv_at hl 2 rfl) ?_
            refine lv_aload_n hx hb d_Directive_readFlags_74 rfl (lv_at hl 2 rfl) ?_
            refine va_get (D := (dC, dI)) (ci := 2) (v := .int d_flags) (C := "DirectivePrinter$Directive") (T := T_Directive) (N := 7) hx hb hts (mm_up i_Directive) hown hK hw.1 2 rfl rfl 1 (by decide) (hts _ (List.mem_cons_of_mem _ q_139)) (fun _ h9 => h9) rfl d_Directive_readFlags_75 ?_
            refine lv_iload hx hb d_Directive_readFlags_78 (lv_at hl 0 rfl) ?_
            refine lv_ior hx hb d_Directive_readFlags_80 ?_
            refine va_put (D := (dC, dI)) (ci := 2) (v := .int (d_flags ||| ((1 : Int32) <<< (r_3 &&& 31)))) (ty := .int) (C := "DirectivePrinter$Directive") (T := T_Directive) (N := 7) hx hb hts (mm_up i_Directive) t_Directive t_Directive_ok n_Directive hown hK hw.1 hw.2.1 hw.2.2 2 rfl rfl 1 (by decide) (hts _ (List.mem_cons_of_mem _ q_139)) (fun _ h9 => h9) rfl (by decide +kernel) rfl rfl (Nat.le_of_ble_eq_true rfl) d_Directive_readFlags_81 (fun H locs hP hD hS => ?_)
            have hw : mm_w (dC, dI) vwC A s [(h_r, .inr (0, [.ref h_r_kept, .int r_length])), (h_r_kept, .inl (cC, r_kept_n, .inl r_kept)), (h_d, .inr (2, [.int d_index, .int (d_flags ||| ((1 : Int32) <<< (r_3 &&& 31))), .int (0 : Int32), .int d_width, .int d_precision, .int d_conversion, .int d_next]))] H locs := ⟨hP, hD, hS⟩
            refine lv_aload_n hx hb d_Directive_readFlags_84 rfl (lv_at hl 2 rfl) ?_
            refine lv_dup hx hb d_Directive_readFlags_85 rfl ?_
            refine va_get (D := (dC, dI)) (ci := 2) (v := .int d_next) (C := "DirectivePrinter$Directive") (T := T_Directive) (N := 7) hx hb hts (mm_up i_Directive) hown hK hw.1 2 rfl rfl 6 (by decide) (hts _ (List.mem_cons_of_mem _ q_146)) (fun _ h9 => h9) rfl d_Directive_readFlags_86 ?_
            refine lv_iconst (v := (1 : Int32)) hx hb d_Directive_readFlags_89 (by decide) ?_
            refine lv_iadd hx hb d_Directive_readFlags_90 ?_
            refine va_put (D := (dC, dI)) (ci := 2) (v := .int (d_next + (1 : Int32))) (ty := .int) (C := "DirectivePrinter$Directive") (T := T_Directive) (N := 7) hx hb hts (mm_up i_Directive) t_Directive t_Directive_ok n_Directive hown hK hw.1 hw.2.1 hw.2.2 2 rfl rfl 6 (by decide) (hts _ (List.mem_cons_of_mem _ q_146)) (fun _ h9 => h9) rfl (by decide +kernel) rfl rfl (Nat.le_of_ble_eq_true rfl) d_Directive_readFlags_91 (fun H locs hP hD hS => ?_)
            have hw : mm_w (dC, dI) vwC A s [(h_r, .inr (0, [.ref h_r_kept, .int r_length])), (h_r_kept, .inl (cC, r_kept_n, .inl r_kept)), (h_d, .inr (2, [.int d_index, .int (d_flags ||| ((1 : Int32) <<< (r_3 &&& 31))), .int (0 : Int32), .int d_width, .int d_precision, .int d_conversion, .int (d_next + (1 : Int32))]))] H locs := ⟨hP, hD, hS⟩
            refine lv_goto (tgt := 15) hx hb d_Directive_readFlags_94 (by decide) ?_
            exact ih (d_flags ||| ((1 : Int32) <<< (r_3 &&& 31))) (0 : Int32) (d_next + (1 : Int32)) x2 hf _ _ (mm_wsub hw [2, 0, 1] (by decide) rfl rfl) _ (lv_sub hl [2, 3, 4] rfl)
          · replace hf := mm_in hc hf
            refine lv_iconst (v := (1 : Int32)) hx hb d_Directive_readFlags_65 (by decide) ?_
            refine lv_goto (tgt := 70) hx hb d_Directive_readFlags_66 (by decide) ?_
            refine va_put (D := (dC, dI)) (ci := 2) (v := .int (1 : Int32)) (ty := .boolean) (C := "DirectivePrinter$Directive") (T := T_Directive) (N := 7) hx hb hts (mm_up i_Directive) t_Directive t_Directive_ok n_Directive hown hK hw.1 hw.2.1 hw.2.2 2 rfl rfl 2 (by decide) (hts _ (List.mem_cons_of_mem _ q_140)) (fun _ h9 => h9) rfl (by decide +kernel) (by decide) (by decide) (Nat.le_of_ble_eq_true rfl) d_Directive_readFlags_70 (fun H locs hP hD hS => ?_)
            have hw : mm_w (dC, dI) vwC A s [(h_r, .inr (0, [.ref h_r_kept, .int r_length])), (h_r_kept, .inl (cC, r_kept_n, .inl r_kept)), (h_d, .inr (2, [.int d_index, .int d_flags, .int (1 : Int32), .int d_width, .int d_precision, .int d_conversion, .int d_next]))] H locs := ⟨hP, hD, hS⟩
            refine lv_aload_n hx hb d_Directive_readFlags_73 rfl (lv_at hl 2 rfl) ?_
            refine lv_aload_n hx hb d_Directive_readFlags_74 rfl (lv_at hl 2 rfl) ?_
            refine va_get (D := (dC, dI)) (ci := 2) (v := .int d_flags) (C := "DirectivePrinter$Directive") (T := T_Directive) (N := 7) hx hb hts (mm_up i_Directive) hown hK hw.1 2 rfl rfl 1 (by decide) (hts _ (List.mem_cons_of_mem _ q_139)) (fun _ h9 => h9) rfl d_Directive_readFlags_75 ?_
            refine lv_iload hx hb d_Directive_readFlags_78 (lv_at hl 0 rfl) ?_
            refine lv_ior hx hb d_Directive_readFlags_80 ?_
            refine va_put (D := (dC, dI)) (ci := 2) (v := .int (d_flags ||| ((1 : Int32) <<< (r_3 &&& 31)))) (ty := .int) (C := "DirectivePrinter$Directive") (T := T_Directive) (N := 7) hx hb hts (mm_up i_Directive) t_Directive t_Directive_ok n_Directive hown hK hw.1 hw.2.1 hw.2.2 2 rfl rfl 1 (by decide) (hts _ (List.mem_cons_of_mem _ q_139)) (fun _ h9 => h9) rfl (by decide +kernel) rfl rfl (Nat.le_of_ble_eq_true rfl) d_Directive_readFlags_81 (fun H locs hP hD hS => ?_)
            have hw : mm_w (dC, dI) vwC A s [(h_r, .inr (0, [.ref h_r_kept, .int r_length])), (h_r_kept, .inl (cC, r_kept_n, .inl r_kept)), (h_d, .inr (2, [.int d_index, .int (d_flags ||| ((1 : Int32) <<< (r_3 &&& 31))), .int (1 : Int32), .int d_width, .int d_precision, .int d_conversion, .int d_next]))] H locs := ⟨hP, hD, hS⟩
            refine lv_aload_n hx hb d_Directive_readFlags_84 rfl (lv_at hl 2 rfl) ?_
            refine lv_dup hx hb d_Directive_readFlags_85 rfl ?_
            refine va_get (D := (dC, dI)) (ci := 2) (v := .int d_next) (C := "DirectivePrinter$Directive") (T := T_Directive) (N := 7) hx hb hts (mm_up i_Directive) hown hK hw.1 2 rfl rfl 6 (by decide) (hts _ (List.mem_cons_of_mem _ q_146)) (fun _ h9 => h9) rfl d_Directive_readFlags_86 ?_
            refine lv_iconst (v := (1 : Int32)) hx hb d_Directive_readFlags_89 (by decide) ?_
            refine lv_iadd hx hb d_Directive_readFlags_90 ?_
            refine va_put (D := (dC, dI)) (ci := 2) (v := .int (d_next + (1 : Int32))) (ty := .int) (C := "DirectivePrinter$Directive") (T := T_Directive) (N := 7) hx hb hts (mm_up i_Directive) t_Directive t_Directive_ok n_Directive hown hK hw.1 hw.2.1 hw.2.2 2 rfl rfl 6 (by decide) (hts _ (List.mem_cons_of_mem _ q_146)) (fun _ h9 => h9) rfl (by decide +kernel) rfl rfl (Nat.le_of_ble_eq_true rfl) d_Directive_readFlags_91 (fun H locs hP hD hS => ?_)
            have hw : mm_w (dC, dI) vwC A s [(h_r, .inr (0, [.ref h_r_kept, .int r_length])), (h_r_kept, .inl (cC, r_kept_n, .inl r_kept)), (h_d, .inr (2, [.int d_index, .int (d_flags ||| ((1 : Int32) <<< (r_3 &&& 31))), .int (1 : Int32), .int d_width, .int d_precision, .int d_conversion, .int (d_next + (1 : Int32))]))] H locs := ⟨hP, hD, hS⟩
            refine lv_goto (tgt := 15) hx hb d_Directive_readFlags_94 (by decide) ?_
            exact ih (d_flags ||| ((1 : Int32) <<< (r_3 &&& 31))) (1 : Int32) (d_next + (1 : Int32)) x2 hf _ _ (mm_wsub hw [2, 0, 1] (by decide) rfl rfl) _ (lv_sub hl [2, 3, 4] rfl)
      · replace hf := mm_in hc hf
        obtain rfl := Option.some.inj hf
        exact mm_vret hx hb hr hlocks hK (mm_wsub hw [0, 1, 2] (by decide) rfl rfl) d_Directive_readFlags_42
set_option maxHeartbeats 4000000 in
set_option maxRecDepth 100000 in
theorem c_Directive_readFlags (l : Launch) {Z : (Nat → Prop) → State → Heap → Prop} {ad adK adV : Nat → Nat} (Zo : mm_Zx Z ad adK adV) (dC : Nat → ClassId) (dI : Nat → Nat → Nat) (cC cI cJ cQ : ClassId) (N : Nat) (d_index : Int32) (d_flags : Int32) (d_flagTwice : Int32) (d_width : Int32) (d_precision : Int32) (d_conversion : Int32) (d_next : Int32) (r_kept_n : Nat) (r_kept : Nat → Int32) (r_length : Int32) (h_d h_r h_r_kept : Nat) (sz : Nat) (out : Int32 × Int32 × Int32) (hf : f_Directive_readFlags N d_next r_kept_n r_kept r_length = some out) : Met l y_Directive_readFlags w_Directive_readFlags r_Directive_readFlags (mm_pre (dC, dI) vwC (tyl cC cI cJ cQ) Z [(h_d, .inr (2, [.int d_index, .int d_flags, .int d_flagTwice, .int d_width, .int d_precision, .int d_conversion, .int d_next])), (h_r, .inr (0, [.ref h_r_kept, .int r_length])), (h_r_kept, .inl (cC, r_kept_n, .inl r_kept))] sz [.ref h_d, .ref h_r]) (mm_qv (dC, dI) vwC (tyl cC cI cJ cQ) (va_A [(h_d, .inr (2, [.int d_index, .int d_flags, .int d_flagTwice, .int d_width, .int d_precision, .int d_conversion, .int d_next])), (h_r, .inr (0, [.ref h_r_kept, .int r_length])), (h_r_kept, .inl (cC, r_kept_n, .inl r_kept))] sz) [(h_d, .inr (2, [.int d_index, .int out.1, .int out.2.1, .int d_width, .int d_precision, .int d_conversion, .int out.2.2])), (h_r, .inr (0, [.ref h_r_kept, .int r_length])), (h_r_kept, .inl (cC, r_kept_n, .inl r_kept))]) 0 0 (va_A [(h_d, .inr (2, [.int d_index, .int d_flags, .int d_flagTwice, .int d_width, .int d_precision, .int d_conversion, .int d_next])), (h_r, .inr (0, [.ref h_r_kept, .int r_length])), (h_r_kept, .inl (cC, r_kept_n, .inl r_kept))] sz) := by
  refine mm_of (own := "DirectivePrinter$Directive") (cc := b_Directive_readFlags) (maxL := 5) (ret := none) (by decide) rfl rfl ?_
  intro p e s m below meth c hsz C0 hw hname
  generalize (va_A [(h_d, .inr (2, [.int d_index, .int d_flags, .int d_flagTwice, .int d_width, .int d_precision, .int d_conversion, .int d_next])), (h_r, .inr (0, [.ref h_r_kept, .int r_length])), (h_r_kept, .inl (cC, r_kept_n, .inl r_kept))] sz) = A at C0 hw ⊢
  have hl := lv_entry ([.ref h_d, .ref h_r]) (n := 5) (Nat.le_of_ble_eq_true rfl)
  rw [lg_entry_eq]
  generalize (lg_sl ([.ref h_d, .ref h_r]) ++ List.replicate (5 - (lg_sl ([.ref h_d, .ref h_r])).length) Slot.unset).toArray = ls at hl ⊢
  have hl : lv_has ls 5 [(0, .ref h_d), (1, .ref h_r)] := hl
  obtain ⟨hx, hb, hr, hml, hown, hts, hlocks, hK, hZ, hA⟩ := id C0
  generalize s.heap = H at hw ⊢
  unfold f_Directive_readFlags at hf
  refine lv_aload_n hx hb d_Directive_readFlags_0 rfl (lv_at hl 0 rfl) ?_
  refine lv_iconst (v := (0 : Int32)) hx hb d_Directive_readFlags_1 (by decide) ?_
  refine va_put (D := (dC, dI)) (ci := 2) (v := .int (0 : Int32)) (ty := .int) (C := "DirectivePrinter$Directive") (T := T_Directive) (N := 7) hx hb hts (mm_up i_Directive) t_Directive t_Directive_ok n_Directive hown hK hw.1 hw.2.1 hw.2.2 0 rfl rfl 1 (by decide) (hts _ (List.mem_cons_of_mem _ q_139)) (fun _ h9 => h9) rfl (by decide +kernel) rfl rfl (Nat.le_of_ble_eq_true rfl) d_Directive_readFlags_2 (fun H locs hP hD hS => ?_)
  have hw : mm_w (dC, dI) vwC A s [(h_d, .inr (2, [.int d_index, .int (0 : Int32), .int d_flagTwice, .int d_width, .int d_precision, .int d_conversion, .int d_next])), (h_r, .inr (0, [.ref h_r_kept, .int r_length])), (h_r_kept, .inl (cC, r_kept_n, .inl r_kept))] H locs := ⟨hP, hD, hS⟩
  refine lv_aload_n hx hb d_Directive_readFlags_5 rfl (lv_at hl 0 rfl) ?_
  refine lv_iconst (v := (0 : Int32)) hx hb d_Directive_readFlags_6 (by decide) ?_
  refine va_put (D := (dC, dI)) (ci := 2) (v := .int (0 : Int32)) (ty := .boolean) (C := "DirectivePrinter$Directive") (T := T_Directive) (N := 7) hx hb hts (mm_up i_Directive) t_Directive t_Directive_ok n_Directive hown hK hw.1 hw.2.1 hw.2.2 0 rfl rfl 2 (by decide) (hts _ (List.mem_cons_of_mem _ q_140)) (fun _ h9 => h9) rfl (by decide +kernel) (by decide) (by decide) (Nat.le_of_ble_eq_true rfl) d_Directive_readFlags_7 (fun H locs hP hD hS => ?_)
  have hw : mm_w (dC, dI) vwC A s [(h_d, .inr (2, [.int d_index, .int (0 : Int32), .int (0 : Int32), .int d_width, .int d_precision, .int d_conversion, .int d_next])), (h_r, .inr (0, [.ref h_r_kept, .int r_length])), (h_r_kept, .inl (cC, r_kept_n, .inl r_kept))] H locs := ⟨hP, hD, hS⟩
  refine lv_aload_n hx hb d_Directive_readFlags_10 rfl (lv_at hl 1 rfl) ?_
  obtain ⟨r_1, hu, hf⟩ := mm_b1_ok hf
  refine mm_ci (wr := [(h_d, .inr (2, [.int d_index, .int (0 : Int32), .int (0 : Int32), .int d_width, .int d_precision, .int d_conversion, .int d_next]))]) (va_runV (As := []) (rest := []) ⟨hx, hb, hml, hown, hts⟩ (c_Row_size l Zo dC dI cC cI cJ cQ r_kept_n r_kept r_length h_r h_r_kept H.size r_1 hu) (cwV 0 hts (mm_gV q_294 q_243 q_244 q_55 q_245) rfl rfl rfl (by decide +kernel) ⟨Nat.le_of_ble_eq_true rfl, Nat.le_of_ble_eq_true rfl⟩) (mm_pv Zo.1 hK hw hZ hA [1, 2] (by decide) rfl rfl (ci := 0) (q0 := 0) rfl rfl) rfl rfl hl.1 rfl (lv_room (Nat.le_of_ble_eq_true rfl)) d_Directive_readFlags_11 ⟨Nat.le_refl _, Nat.le_refl _⟩) hw hA [1, 2] [0] rfl rfl (by decide) (by decide) (fun H locs hw => ?_)
  have hw : mm_w (dC, dI) vwC A s [(h_d, .inr (2, [.int d_index, .int (0 : Int32), .int (0 : Int32), .int d_width, .int d_precision, .int d_conversion, .int d_next])), (h_r, .inr (0, [.ref h_r_kept, .int r_length])), (h_r_kept, .inl (cC, r_kept_n, .inl r_kept))] H locs := hw
  refine lv_istore_n (lv' := [(2, .int r_1), (0, .ref h_d), (1, .ref h_r)]) hx hb d_Directive_readFlags_14 rfl hl (by decide) rfl (fun ls hl => ?_)
  exact b_Directive_readFlags_15 Zo C0 N d_index d_width d_precision d_conversion r_kept_n r_kept r_length  out N (0 : Int32) (0 : Int32) d_next r_1 hf _ _ hw _ (lv_sub hl [1, 2, 0] rfl)
/-! DirectivePrinter$Directive.faultOfForm()I -/
def f_Directive_faultOfForm_68 (N : Nat) (d_flags : Int32) (d_width : Int32) (d_precision : Int32) (d_conversion : Int32) : Option (Int32) := (if d_precision = (-1 : Int32) then mm_b1 (f_Directive_faultOfFlags d_flags d_width d_conversion) (fun r_2 => some (r_2)) else mm_b1 (f_String_indexOf N (2) (mm_c d_conversion)) (fun r_3 => (if r_3 < 0 then mm_b1 (f_Directive_faultOfFlags d_flags d_width d_conversion) (fun r_4 => some (r_4)) else some ((5 : Int32)))))
def f_Directive_faultOfForm (N : Nat) (d_flags : Int32) (d_flagTwice : Int32) (d_width : Int32) (d_precision : Int32) (d_conversion : Int32) : Option (Int32) := (if d_conversion = (-1 : Int32) then some ((1 : Int32)) else mm_b1 (f_String_indexOf N (1) (mm_c d_conversion)) (fun r_1 => (if 0 ≤ r_1 then (if d_flagTwice = 0 then (if d_conversion = (110 : Int32) then (if d_width = (-1 : Int32) then (if d_precision = (-1 : Int32) then (if d_flags = 0 then f_Directive_faultOfForm_68 N d_flags d_width d_precision d_conversion  else some ((4 : Int32))) else some ((4 : Int32))) else some ((4 : Int32))) else f_Directive_faultOfForm_68 N d_flags d_width d_precision d_conversion ) else some ((3 : Int32))) else some ((2 : Int32)))))
abbrev r_Directive_faultOfForm : Room := { frames := 4, cells := 0, slots := 0, locals := 91 }
set_option maxHeartbeats 4000000 in
set_option maxRecDepth 100000 in
theorem b_Directive_faultOfForm_68 {h_d : Nat} (Zo : mm_Zx Z ad adK adV) (C0 : mm_cx (dC, dI) vwC (tyl cC cI cJ cQ) Z p s m args meth c b_Directive_faultOfForm 1 (some .int) "DirectivePrinter$Directive" w_Directive_faultOfForm A) (N : Nat) (d_index : Int32) (d_flags : Int32) (d_flagTwice : Int32) (d_width : Int32) (d_precision : Int32) (d_conversion : Int32) (d_next : Int32) (out : Int32) : f_Directive_faultOfForm_68 N d_flags d_width d_precision d_conversion  = some out → ∀ (H : Heap) (locs : List Loc), mm_w (dC, dI) vwC A s [(h_d, .inr (2, [.int d_index, .int d_flags, .int d_flagTwice, .int d_width, .int d_precision, .int d_conversion, .int d_next]))] H locs → ∀ (ls : Array Slot), lv_has ls 1 [(0, .ref h_d)] → W p l e r_Directive_faultOfForm s m args below meth c H locs 0 0 (MQ below (mm_qi (dC, dI) vwC (tyl cC cI cJ cQ) A [(h_d, .inr (2, [.int d_index, .int d_flags, .int d_flagTwice, .int d_width, .int d_precision, .int d_conversion, .int d_next]))] out) args s 0 0 A) (F0 m 68 ls []) := by
  obtain ⟨hx, hb, hr, hml, hown, hts, hlocks, hK, hZ, hA⟩ := id C0
  intro  hf H locs hw ls hl
  unfold f_Directive_faultOfForm_68 at hf
  refine lv_aload_n hx hb d_Directive_faultOfForm_68 rfl (lv_at hl 0 rfl) ?_
  refine va_get (D := (dC, dI)) (ci := 2) (v := .int d_precision) (C := "DirectivePrinter$Directive") (T := T_Directive) (N := 7) hx hb hts (mm_up i_Directive) hown hK hw.1 0 rfl rfl 4 (by decide) (hts _ (List.mem_cons_of_mem _ q_143)) (fun _ h9 => h9) rfl d_Directive_faultOfForm_69 ?_
  refine lv_iconst (v := (-1 : Int32)) hx hb d_Directive_faultOfForm_72 (by decide) ?_
  refine lv_icmp_eq (tgt := 91) hx hb d_Directive_faultOfForm_73 (by decide) (fun hc => ?_) (fun hc => ?_)
  · replace hf := mm_ip hc hf
    refine lv_aload_n hx hb d_Directive_faultOfForm_91 rfl (lv_at hl 0 rfl) ?_
    obtain ⟨r_2, hu, hf⟩ := mm_b1_ok hf
    refine mm_ci (wr := []) (va_runV (As := []) (rest := []) ⟨hx, hb, hml, hown, hts⟩ (c_Directive_faultOfFlags l Zo dC dI cC cI cJ cQ d_index d_flags d_flagTwice d_width d_precision d_conversion d_next h_d H.size r_2 hu) (cwV 0 hts (mm_gV q_403 q_405 q_6 q_60 q_406) rfl rfl rfl (by decide +kernel) ⟨Nat.le_of_ble_eq_true rfl, Nat.le_of_ble_eq_true rfl⟩) (mm_pv Zo.1 hK hw hZ hA [0] (by decide) rfl rfl (ci := 2) (q0 := 0) rfl rfl) rfl rfl hl.1 rfl (lv_room (Nat.le_of_ble_eq_true rfl)) d_Directive_faultOfForm_92 ⟨Nat.le_refl _, Nat.le_refl _⟩) hw hA [0] [] rfl rfl (by decide) (by decide) (fun H locs hw => ?_)
    have hw : mm_w (dC, dI) vwC A s [(h_d, .inr (2, [.int d_index, .int d_flags, .int d_flagTwice, .int d_width, .int d_precision, .int d_conversion, .int d_next]))] H locs := hw
    obtain rfl := Option.some.inj hf
    exact mm_iret hx hb hr hlocks hK (mm_wsub hw [0] (by decide) rfl rfl) rfl d_Directive_faultOfForm_95
  · replace hf := mm_in hc hf
    refine va_ldcS hx hb hown ((Zo.2 _ _ _ hZ).2.2.2.1 2 (by decide)) d_Directive_faultOfForm_76 ?_
    refine lv_aload_n hx hb d_Directive_faultOfForm_78 rfl (lv_at hl 0 rfl) ?_
    refine va_get (D := (dC, dI)) (ci := 2) (v := .int d_conversion) (C := "DirectivePrinter$Directive") (T := T_Directive) (N := 7) hx hb hts (mm_up i_Directive) hown hK hw.1 0 rfl rfl 5 (by decide) (hts _ (List.mem_cons_of_mem _ q_145)) (fun _ h9 => h9) rfl d_Directive_faultOfForm_79 ?_
    refine lv_i2c (v := mm_c d_conversion) hx hb d_Directive_faultOfForm_82 rfl ?_
    obtain ⟨r_3, hu, hf⟩ := mm_b1_ok hf
    refine mm_ci (wr := [(h_d, .inr (2, [.int d_index, .int d_flags, .int d_flagTwice, .int d_width, .int d_precision, .int d_conversion, .int d_next]))]) (va_runV (As := [.int (mm_c d_conversion)]) (rest := []) ⟨hx, hb, hml, hown, hts⟩ (c_String_indexOf l Zo dC dI cC cI cJ cQ N (2) (mm_c d_conversion) (by decide)  H.size r_3 hu) (cwV 1 hts (mm_gV q_307 q_308 q_309 q_69 q_310) rfl rfl rfl (by decide +kernel) ⟨Nat.le_of_ble_eq_true rfl, Nat.le_of_ble_eq_true rfl⟩) (mm_pvR Zo.1 hK hw hZ hA [] (by decide) rfl rfl (vk_recv ((Zo.2 _ _ _ hZ).2.2.1) (by decide) hw.2.2)) rfl rfl hl.1 rfl (lv_room (Nat.le_of_ble_eq_true rfl)) d_Directive_faultOfForm_83 ⟨Nat.le_refl _, Nat.le_refl _⟩) hw hA [] [0] rfl rfl (by decide) (by decide) (fun H locs hw => ?_)
    have hw : mm_w (dC, dI) vwC A s [(h_d, .inr (2, [.int d_index, .int d_flags, .int d_flagTwice, .int d_width, .int d_precision, .int d_conversion, .int d_next]))] H locs := hw
    refine lv_if_lt (tgt := 91) hx hb d_Directive_faultOfForm_86 (by decide) (fun hc => ?_) (fun hc => ?_)
    · replace hf := mm_ip hc hf
      refine lv_aload_n hx hb d_Directive_faultOfForm_91 rfl (lv_at hl 0 rfl) ?_
      obtain ⟨r_4, hu, hf⟩ := mm_b1_ok hf
      refine mm_ci (wr := []) (va_runV (As := []) (rest := []) ⟨hx, hb, hml, hown, hts⟩ (c_Directive_faultOfFlags l Zo dC dI cC cI cJ cQ d_index d_flags d_flagTwice d_width d_precision d_conversion d_next h_d H.size r_4 hu) (cwV 0 hts (mm_gV q_403 q_405 q_6 q_60 q_406) rfl rfl rfl (by decide +kernel) ⟨Nat.le_of_ble_eq_true rfl, Nat.le_of_ble_eq_true rfl⟩) (mm_pv Zo.1 hK hw hZ hA [0] (by decide) rfl rfl (ci := 2) (q0 := 0) rfl rfl) rfl rfl hl.1 rfl (lv_room (Nat.le_of_ble_eq_true rfl)) d_Directive_faultOfForm_92 ⟨Nat.le_refl _, Nat.le_refl _⟩) hw hA [0] [] rfl rfl (by decide) (by decide) (fun H locs hw => ?_)
      have hw : mm_w (dC, dI) vwC A s [(h_d, .inr (2, [.int d_index, .int d_flags, .int d_flagTwice, .int d_width, .int d_precision, .int d_conversion, .int d_next]))] H locs := hw
      obtain rfl := Option.some.inj hf
      exact mm_iret hx hb hr hlocks hK (mm_wsub hw [0] (by decide) rfl rfl) rfl d_Directive_faultOfForm_95
    · replace hf := mm_in hc hf
      refine lv_iconst (v := (5 : Int32)) hx hb d_Directive_faultOfForm_89 (by decide) ?_
      obtain rfl := Option.some.inj hf
      exact mm_iret hx hb hr hlocks hK (mm_wsub hw [0] (by decide) rfl rfl) rfl d_Directive_faultOfForm_90
set_option maxHeartbeats 4000000 in
set_option maxRecDepth 100000 in
theorem c_Directive_faultOfForm (l : Launch) {Z : (Nat → Prop) → State → Heap → Prop} {ad adK adV : Nat → Nat} (Zo : mm_Zx Z ad adK adV) (dC : Nat → ClassId) (dI : Nat → Nat → Nat) (cC cI cJ cQ : ClassId) (N : Nat) (d_index : Int32) (d_flags : Int32) (d_flagTwice : Int32) (d_width : Int32) (d_precision : Int32) (d_conversion : Int32) (d_next : Int32) (h_d : Nat) (sz : Nat) (out : Int32) (hf : f_Directive_faultOfForm N d_flags d_flagTwice d_width d_precision d_conversion = some out) : Met l y_Directive_faultOfForm w_Directive_faultOfForm r_Directive_faultOfForm (mm_pre (dC, dI) vwC (tyl cC cI cJ cQ) Z [(h_d, .inr (2, [.int d_index, .int d_flags, .int d_flagTwice, .int d_width, .int d_precision, .int d_conversion, .int d_next]))] sz [.ref h_d]) (mm_qi (dC, dI) vwC (tyl cC cI cJ cQ) (va_A [(h_d, .inr (2, [.int d_index, .int d_flags, .int d_flagTwice, .int d_width, .int d_precision, .int d_conversion, .int d_next]))] sz) [(h_d, .inr (2, [.int d_index, .int d_flags, .int d_flagTwice, .int d_width, .int d_precision, .int d_conversion, .int d_next]))] out) 0 0 (va_A [(h_d, .inr (2, [.int d_index, .int d_flags, .int d_flagTwice, .int d_width, .int d_precision, .int d_conversion, .int d_next]))] sz) := by
  refine mm_of (own := "DirectivePrinter$Directive") (cc := b_Directive_faultOfForm) (maxL := 1) (ret := (some .int)) (by decide) rfl rfl ?_
  intro p e s m below meth c hsz C0 hw hname
  generalize (va_A [(h_d, .inr (2, [.int d_index, .int d_flags, .int d_flagTwice, .int d_width, .int d_precision, .int d_conversion, .int d_next]))] sz) = A at C0 hw ⊢
  have hl := lv_entry ([.ref h_d]) (n := 1) (Nat.le_of_ble_eq_true rfl)
  rw [lg_entry_eq]
  generalize (lg_sl ([.ref h_d]) ++ List.replicate (1 - (lg_sl ([.ref h_d])).length) Slot.unset).toArray = ls at hl ⊢
  have hl : lv_has ls 1 [(0, .ref h_d)] := hl
  obtain ⟨hx, hb, hr, hml, hown, hts, hlocks, hK, hZ, hA⟩ := id C0
  generalize s.heap = H at hw ⊢
  unfold f_Directive_faultOfForm at hf
  refine lv_aload_n hx hb d_Directive_faultOfForm_0 rfl (lv_at hl 0 rfl) ?_
  refine va_get (D := (dC, dI)) (ci := 2) (v := .int d_conversion) (C := "DirectivePrinter$Directive") (T := T_Directive) (N := 7) hx hb hts (mm_up i_Directive) hown hK hw.1 0 rfl rfl 5 (by decide) (hts _ (List.mem_cons_of_mem _ q_145)) (fun _ h9 => h9) rfl d_Directive_faultOfForm_1 ?_
  refine lv_iconst (v := (-1 : Int32)) hx hb d_Directive_faultOfForm_4 (by decide) ?_
  refine lv_icmp_ne (tgt := 10) hx hb d_Directive_faultOfForm_5 (by decide) (fun hc => ?_) (fun hc => ?_)
  · replace hf := mm_in hc hf
    refine va_ldcS hx hb hown ((Zo.2 _ _ _ hZ).2.2.2.1 1 (by decide)) d_Directive_faultOfForm_10 ?_
    refine lv_aload_n hx hb d_Directive_faultOfForm_12 rfl (lv_at hl 0 rfl) ?_
    refine va_get (D := (dC, dI)) (ci := 2) (v := .int d_conversion) (C := "DirectivePrinter$Directive") (T := T_Directive) (N := 7) hx hb hts (mm_up i_Directive) hown hK hw.1 0 rfl rfl 5 (by decide) (hts _ (List.mem_cons_of_mem _ q_145)) (fun _ h9 => h9) rfl d_Directive_faultOfForm_13 ?_
    refine lv_i2c (v := mm_c d_conversion) hx hb d_Directive_faultOfForm_16 rfl ?_
    obtain ⟨r_1, hu, hf⟩ := mm_b1_ok hf
    refine mm_ci (wr := [(h_d, .inr (2, [.int d_index, .int d_flags, .int d_flagTwice, .int d_width, .int d_precision, .int d_conversion, .int d_next]))]) (va_runV (As := [.int (mm_c d_conversion)]) (rest := []) ⟨hx, hb, hml, hown, hts⟩ (c_String_indexOf l Zo dC dI cC cI cJ cQ N (1) (mm_c d_conversion) (by decide)  H.size r_1 hu) (cwV 1 hts (mm_gV q_307 q_308 q_309 q_69 q_310) rfl rfl rfl (by decide +kernel) ⟨Nat.le_of_ble_eq_true rfl, Nat.le_of_ble_eq_true rfl⟩) (mm_pvR Zo.1 hK hw hZ hA [] (by decide) rfl rfl (vk_recv ((Zo.2 _ _ _ hZ).2.2.1) (by decide) hw.2.2)) rfl rfl hl.1 rfl (lv_room (Nat.le_of_ble_eq_true rfl)) d_Directive_faultOfForm_17 ⟨Nat.le_refl _, Nat.le_refl _⟩) hw hA [] [0] rfl rfl (by decide) (by decide) (fun H locs hw => ?_)
    have hw : mm_w (dC, dI) vwC A s [(h_d, .inr (2, [.int d_index, .int d_flags, .int d_flagTwice, .int d_width, .int d_precision, .int d_conversion, .int d_next]))] H locs := hw
    refine lv_if_ge (tgt := 25) hx hb d_Directive_faultOfForm_20 (by decide) (fun hc => ?_) (fun hc => ?_)
    · replace hf := mm_ip hc hf
      refine lv_aload_n hx hb d_Directive_faultOfForm_25 rfl (lv_at hl 0 rfl) ?_
      refine va_get (D := (dC, dI)) (ci := 2) (v := .int d_flagTwice) (C := "DirectivePrinter$Directive") (T := T_Directive) (N := 7) hx hb hts (mm_up i_Directive) hown hK hw.1 0 rfl rfl 2 (by decide) (hts _ (List.mem_cons_of_mem _ q_140)) (fun _ h9 => h9) rfl d_Directive_faultOfForm_26 ?_
      refine lv_if_eq (tgt := 34) hx hb d_Directive_faultOfForm_29 (by decide) (fun hc => ?_) (fun hc => ?_)
      · replace hf := mm_ip hc hf
        refine lv_aload_n hx hb d_Directive_faultOfForm_34 rfl (lv_at hl 0 rfl) ?_
        refine va_get (D := (dC, dI)) (ci := 2) (v := .int d_conversion) (C := "DirectivePrinter$Directive") (T := T_Directive) (N := 7) hx hb hts (mm_up i_Directive) hown hK hw.1 0 rfl rfl 5 (by decide) (hts _ (List.mem_cons_of_mem _ q_145)) (fun _ h9 => h9) rfl d_Directive_faultOfForm_35 ?_
        refine lv_bipush (v := (110 : Int32)) hx hb d_Directive_faultOfForm_38 (by decide) ?_
        refine lv_icmp_ne (tgt := 68) hx hb d_Directive_faultOfForm_40 (by decide) (fun hc => ?_) (fun hc => ?_)
        · replace hf := mm_in hc hf
          exact b_Directive_faultOfForm_68 Zo C0 N d_index d_flags d_flagTwice d_width d_precision d_conversion d_next  out  hf _ _ hw _ hl
        · replace hf := mm_ip hc hf
          refine lv_aload_n hx hb d_Directive_faultOfForm_43 rfl (lv_at hl 0 rfl) ?_
          refine va_get (D := (dC, dI)) (ci := 2) (v := .int d_width) (C := "DirectivePrinter$Directive") (T := T_Directive) (N := 7) hx hb hts (mm_up i_Directive) hown hK hw.1 0 rfl rfl 3 (by decide) (hts _ (List.mem_cons_of_mem _ q_141)) (fun _ h9 => h9) rfl d_Directive_faultOfForm_44 ?_
          refine lv_iconst (v := (-1 : Int32)) hx hb d_Directive_faultOfForm_47 (by decide) ?_
          refine lv_icmp_ne (tgt := 66) hx hb d_Directive_faultOfForm_48 (by decide) (fun hc => ?_) (fun hc => ?_)
          · replace hf := mm_in hc hf
            refine lv_iconst (v := (4 : Int32)) hx hb d_Directive_faultOfForm_66 (by decide) ?_
            obtain rfl := Option.some.inj hf
            exact mm_iret hx hb hr hlocks hK (mm_wsub hw [0] (by decide) rfl rfl) rfl d_Directive_faultOfForm_67
          · replace hf := mm_ip hc hf
            refine lv_aload_n hx hb d_Directive_faultOfForm_51 rfl (lv_at hl 0 rfl) ?_
            refine va_get (D := (dC, dI)) (ci := 2) (v := .int d_precision) (C := "DirectivePrinter$Directive") (T := T_Directive) (N := 7) hx hb hts (mm_up i_Directive) hown hK hw.1 0 rfl rfl 4 (by decide) (hts _ (List.mem_cons_of_mem _ q_143)) (fun _ h9 => h9) rfl d_Directive_faultOfForm_52 ?_
            refine lv_iconst (v := (-1 : Int32)) hx hb d_Directive_faultOfForm_55 (by decide) ?_
            refine lv_icmp_ne (tgt := 66) hx hb d_Directive_faultOfForm_56 (by decide) (fun hc => ?_) (fun hc => ?_)
            · replace hf := mm_in hc hf
              refine lv_iconst (v := (4 : Int32)) hx hb d_Directive_faultOfForm_66 (by decide) ?_
              obtain rfl := Option.some.inj hf
              exact mm_iret hx hb hr hlocks hK (mm_wsub hw [0] (by decide) rfl rfl) rfl d_Directive_faultOfForm_67
            · replace hf := mm_ip hc hf
              refine lv_aload_n hx hb d_Directive_faultOfForm_59 rfl (lv_at hl 0 rfl) ?_
              refine va_get (D := (dC, dI)) (ci := 2) (v := .int d_flags) (C := "DirectivePrinter$Directive") (T := T_Directive) (N := 7) hx hb hts (mm_up i_Directive) hown hK hw.1 0 rfl rfl 1 (by decide) (hts _ (List.mem_cons_of_mem _ q_139)) (fun _ h9 => h9) rfl d_Directive_faultOfForm_60 ?_
              refine lv_if_eq (tgt := 68) hx hb d_Directive_faultOfForm_63 (by decide) (fun hc => ?_) (fun hc => ?_)
              · replace hf := mm_ip hc hf
                exact b_Directive_faultOfForm_68 Zo C0 N d_index d_flags d_flagTwice d_width d_precision d_conversion d_next  out  hf _ _ hw _ hl
              · replace hf := mm_in hc hf
                refine lv_iconst (v := (4 : Int32)) hx hb d_Directive_faultOfForm_66 (by decide) ?_
                obtain rfl := Option.some.inj hf
                exact mm_iret hx hb hr hlocks hK (mm_wsub hw [0] (by decide) rfl rfl) rfl d_Directive_faultOfForm_67
      · replace hf := mm_in hc hf
        refine lv_iconst (v := (3 : Int32)) hx hb d_Directive_faultOfForm_32 (by decide) ?_
        obtain rfl := Option.some.inj hf
        exact mm_iret hx hb hr hlocks hK (mm_wsub hw [0] (by decide) rfl rfl) rfl d_Directive_faultOfForm_33
    · replace hf := mm_in hc hf
      refine lv_iconst (v := (2 : Int32)) hx hb d_Directive_faultOfForm_23 (by decide) ?_
      obtain rfl := Option.some.inj hf
      exact mm_iret hx hb hr hlocks hK (mm_wsub hw [0] (by decide) rfl rfl) rfl d_Directive_faultOfForm_24
  · replace hf := mm_ip hc hf
    refine lv_iconst (v := (1 : Int32)) hx hb d_Directive_faultOfForm_8 (by decide) ?_
    obtain rfl := Option.some.inj hf
    exact mm_iret hx hb hr hlocks hK (mm_wsub hw [0] (by decide) rfl rfl) rfl d_Directive_faultOfForm_9
/-! DirectivePrinter$Directive.read(LDirectivePrinter$Row;I)V -/
def f_Directive_read (N : Nat) (r_kept_n : Nat) (r_kept : Nat → Int32) (r_length : Int32) (start : Int32) : Option (Int32 × Int32 × Int32 × Int32 × Int32 × Int32 × Int32) := mm_b2 (f_Directive_readIndex N (start + (1 : Int32)) r_kept_n r_kept r_length) (fun o_1 o_2 => mm_b3 (f_Directive_readFlags N o_2 r_kept_n r_kept r_length) (fun o_3 o_4 o_5 => mm_b2 (f_Directive_readNumber N o_5 r_kept_n r_kept r_length) (fun r_6 o_7 => mm_b2 (f_Directive_readPrecision N o_7 r_kept_n r_kept r_length) (fun o_8 o_9 => mm_b1 (f_Row_at r_kept_n r_kept r_length o_9) (fun r_10 => some (o_1, o_3, o_4, r_6, o_8, r_10, o_9))))))
abbrev r_Directive_read : Room := { frames := 5, cells := 0, slots := 0, locals := 115 }
set_option maxHeartbeats 4000000 in
set_option maxRecDepth 100000 in
theorem c_Directive_read (l : Launch) {Z : (Nat → Prop) → State → Heap → Prop} {ad adK adV : Nat → Nat} (Zo : mm_Zx Z ad adK adV) (dC : Nat → ClassId) (dI : Nat → Nat → Nat) (cC cI cJ cQ : ClassId) (N : Nat) (d_index : Int32) (d_flags : Int32) (d_flagTwice : Int32) (d_width : Int32) (d_precision : Int32) (d_conversion : Int32) (d_next : Int32) (r_kept_n : Nat) (r_kept : Nat → Int32) (r_length : Int32) (start : Int32) (h_d h_r h_r_kept : Nat) (sz : Nat) (out : Int32 × Int32 × Int32 × Int32 × Int32 × Int32 × Int32) (hf : f_Directive_read N r_kept_n r_kept r_length start = some out) : Met l y_Directive_read w_Directive_read r_Directive_read (mm_pre (dC, dI) vwC (tyl cC cI cJ cQ) Z [(h_d, .inr (2, [.int d_index, .int d_flags, .int d_flagTwice, .int d_width, .int d_precision, .int d_conversion, .int d_next])), (h_r, .inr (0, [.ref h_r_kept, .int r_length])), (h_r_kept, .inl (cC, r_kept_n, .inl r_kept))] sz [.ref h_d, .ref h_r, .int start]) (mm_qv (dC, dI) vwC (tyl cC cI cJ cQ) (va_A [(h_d, .inr (2, [.int d_index, .int d_flags, .int d_flagTwice, .int d_width, .int d_precision, .int d_conversion, .int d_next])), (h_r, .inr (0, [.ref h_r_kept, .int r_length])), (h_r_kept, .inl (cC, r_kept_n, .inl r_kept))] sz) [(h_d, .inr (2, [.int out.1, .int out.2.1, .int out.2.2.1, .int out.2.2.2.1, .int out.2.2.2.2.1, .int out.2.2.2.2.2.1, .int out.2.2.2.2.2.2])), (h_r, .inr (0, [.ref h_r_kept, .int r_length])), (h_r_kept, .inl (cC, r_kept_n, .inl r_kept))]) 0 0 (va_A [(h_d, .inr (2, [.int d_index, .int d_flags, .int d_flagTwice, .int d_width, .int d_precision, .int d_conversion, .int d_next])), (h_r, .inr (0, [.ref h_r_kept, .int r_length])), (h_r_kept, .inl (cC, r_kept_n, .inl r_kept))] sz) := by
  refine mm_of (own := "DirectivePrinter$Directive") (cc := b_Directive_read) (maxL := 3) (ret := none) (by decide) rfl rfl ?_
  intro p e s m below meth c hsz C0 hw hname
  generalize (va_A [(h_d, .inr (2, [.int d_index, .int d_flags, .int d_flagTwice, .int d_width, .int d_precision, .int d_conversion, .int d_next])), (h_r, .inr (0, [.ref h_r_kept, .int r_length])), (h_r_kept, .inl (cC, r_kept_n, .inl r_kept))] sz) = A at C0 hw ⊢
  have hl := lv_entry ([.ref h_d, .ref h_r, .int start]) (n := 3) (Nat.le_of_ble_eq_true rfl)
  rw [lg_entry_eq]
  generalize (lg_sl ([.ref h_d, .ref h_r, .int start]) ++ List.replicate (3 - (lg_sl ([.ref h_d, .ref h_r, .int start])).length) Slot.unset).toArray = ls at hl ⊢
  have hl : lv_has ls 3 [(0, .ref h_d), (1, .ref h_r), (2, .int start)] := hl
  obtain ⟨hx, hb, hr, hml, hown, hts, hlocks, hK, hZ, hA⟩ := id C0
  generalize s.heap = H at hw ⊢
  unfold f_Directive_read at hf
  refine lv_aload_n hx hb d_Directive_read_0 rfl (lv_at hl 0 rfl) ?_
  refine lv_iload_n hx hb d_Directive_read_1 rfl (lv_at hl 2 rfl) ?_
  refine lv_iconst (v := (1 : Int32)) hx hb d_Directive_read_2 (by decide) ?_
  refine lv_iadd hx hb d_Directive_read_3 ?_
  refine va_put (D := (dC, dI)) (ci := 2) (v := .int (start + (1 : Int32))) (ty := .int) (C := "DirectivePrinter$Directive") (T := T_Directive) (N := 7) hx hb hts (mm_up i_Directive) t_Directive t_Directive_ok n_Directive hown hK hw.1 hw.2.1 hw.2.2 0 rfl rfl 6 (by decide) (hts _ (List.mem_cons_of_mem _ q_146)) (fun _ h9 => h9) rfl (by decide +kernel) rfl rfl (Nat.le_of_ble_eq_true rfl) d_Directive_read_4 (fun H locs hP hD hS => ?_)
  have hw : mm_w (dC, dI) vwC A s [(h_d, .inr (2, [.int d_index, .int d_flags, .int d_flagTwice, .int d_width, .int d_precision, .int d_conversion, .int (start + (1 : Int32))])), (h_r, .inr (0, [.ref h_r_kept, .int r_length])), (h_r_kept, .inl (cC, r_kept_n, .inl r_kept))] H locs := ⟨hP, hD, hS⟩
  refine lv_aload_n hx hb d_Directive_read_7 rfl (lv_at hl 0 rfl) ?_
  refine lv_aload_n hx hb d_Directive_read_8 rfl (lv_at hl 1 rfl) ?_
  obtain ⟨o_1, o_2, hu, hf⟩ := mm_b2_ok hf
  refine mm_cv (wr := []) (va_runV (As := [.ref h_r]) (rest := []) ⟨hx, hb, hml, hown, hts⟩ (c_Directive_readIndex l Zo dC dI cC cI cJ cQ N d_index d_flags d_flagTwice d_width d_precision d_conversion (start + (1 : Int32)) r_kept_n r_kept r_length h_d h_r h_r_kept H.size (o_1, o_2) hu) (cwV 1 hts (mm_gV q_285 q_287 q_2 q_60 q_288) rfl rfl rfl (by decide +kernel) ⟨Nat.le_of_ble_eq_true rfl, Nat.le_of_ble_eq_true rfl⟩) (mm_pv Zo.1 hK hw hZ hA [0, 1, 2] (by decide) rfl rfl (ci := 2) (q0 := 0) rfl rfl) rfl rfl hl.1 rfl (lv_room (Nat.le_of_ble_eq_true rfl)) d_Directive_read_9 ⟨Nat.le_refl _, Nat.le_refl _⟩) hw hA [0, 1, 2] [] rfl rfl (by decide) (by decide) (fun H locs hw => ?_)
  have hw : mm_w (dC, dI) vwC A s [(h_d, .inr (2, [.int o_1, .int d_flags, .int d_flagTwice, .int d_width, .int d_precision, .int d_conversion, .int o_2])), (h_r, .inr (0, [.ref h_r_kept, .int r_length])), (h_r_kept, .inl (cC, r_kept_n, .inl r_kept))] H locs := hw
  refine lv_aload_n hx hb d_Directive_read_12 rfl (lv_at hl 0 rfl) ?_
  refine lv_aload_n hx hb d_Directive_read_13 rfl (lv_at hl 1 rfl) ?_
  obtain ⟨o_3, o_4, o_5, hu, hf⟩ := mm_b3_ok hf
  refine mm_cv (wr := []) (va_runV (As := [.ref h_r]) (rest := []) ⟨hx, hb, hml, hown, hts⟩ (c_Directive_readFlags l Zo dC dI cC cI cJ cQ N o_1 d_flags d_flagTwice d_width d_precision d_conversion o_2 r_kept_n r_kept r_length h_d h_r h_r_kept H.size (o_3, o_4, o_5) hu) (cwV 1 hts (mm_gV q_302 q_304 q_4 q_60 q_305) rfl rfl rfl (by decide +kernel) ⟨Nat.le_of_ble_eq_true rfl, Nat.le_of_ble_eq_true rfl⟩) (mm_pv Zo.1 hK hw hZ hA [0, 1, 2] (by decide) rfl rfl (ci := 2) (q0 := 0) rfl rfl) rfl rfl hl.1 rfl (lv_room (Nat.le_of_ble_eq_true rfl)) d_Directive_read_14 ⟨Nat.le_refl _, Nat.le_refl _⟩) hw hA [0, 1, 2] [] rfl rfl (by decide) (by decide) (fun H locs hw => ?_)
  have hw : mm_w (dC, dI) vwC A s [(h_d, .inr (2, [.int o_1, .int o_3, .int o_4, .int d_width, .int d_precision, .int d_conversion, .int o_5])), (h_r, .inr (0, [.ref h_r_kept, .int r_length])), (h_r_kept, .inl (cC, r_kept_n, .inl r_kept))] H locs := hw
  refine lv_aload_n hx hb d_Directive_read_17 rfl (lv_at hl 0 rfl) ?_
  refine lv_aload_n hx hb d_Directive_read_18 rfl (lv_at hl 0 rfl) ?_
  refine lv_aload_n hx hb d_Directive_read_19 rfl (lv_at hl 1 rfl) ?_
  obtain ⟨r_6, o_7, hu, hf⟩ := mm_b2_ok hf
  refine mm_ci (wr := []) (va_runV (As := [.ref h_r]) (rest := [.ref h_d]) ⟨hx, hb, hml, hown, hts⟩ (c_Directive_readNumber l Zo dC dI cC cI cJ cQ N o_1 o_3 o_4 d_width d_precision d_conversion o_5 r_kept_n r_kept r_length h_d h_r h_r_kept H.size (r_6, o_7) hu) (cwV 1 hts (mm_gV q_290 q_292 q_3 q_60 q_293) rfl rfl rfl (by decide +kernel) ⟨Nat.le_of_ble_eq_true rfl, Nat.le_of_ble_eq_true rfl⟩) (mm_pv Zo.1 hK hw hZ hA [0, 1, 2] (by decide) rfl rfl (ci := 2) (q0 := 0) rfl rfl) rfl rfl hl.1 rfl (lv_room (Nat.le_of_ble_eq_true rfl)) d_Directive_read_20 ⟨Nat.le_refl _, Nat.le_refl _⟩) hw hA [0, 1, 2] [] rfl rfl (by decide) (by decide) (fun H locs hw => ?_)
  have hw : mm_w (dC, dI) vwC A s [(h_d, .inr (2, [.int o_1, .int o_3, .int o_4, .int d_width, .int d_precision, .int d_conversion, .int o_7])), (h_r, .inr (0, [.ref h_r_kept, .int r_length])), (h_r_kept, .inl (cC, r_kept_n, .inl r_kept))] H locs := hw
  refine va_put (D := (dC, dI)) (ci := 2) (v := .int r_6) (ty := .int) (C := "DirectivePrinter$Directive") (T := T_Directive) (N := 7) hx hb hts (mm_up i_Directive) t_Directive t_Directive_ok n_Directive hown hK hw.1 hw.2.1 hw.2.2 0 rfl rfl 3 (by decide) (hts _ (List.mem_cons_of_mem _ q_141)) (fun _ h9 => h9) rfl (by decide +kernel) rfl rfl (Nat.le_of_ble_eq_true rfl) d_Directive_read_23 (fun H locs hP hD hS => ?_)
  have hw : mm_w (dC, dI) vwC A s [(h_d, .inr (2, [.int o_1, .int o_3, .int o_4, .int r_6, .int d_precision, .int d_conversion, .int o_7])), (h_r, .inr (0, [.ref h_r_kept, .int r_length])), (h_r_kept, .inl (cC, r_kept_n, .inl r_kept))] H locs := ⟨hP, hD, hS⟩
  refine lv_aload_n hx hb d_Directive_read_26 rfl (lv_at hl 0 rfl) ?_
  refine lv_aload_n hx hb d_Directive_read_27 rfl (lv_at hl 1 rfl) ?_
  obtain ⟨o_8, o_9, hu, hf⟩ := mm_b2_ok hf
  refine mm_cv (wr := []) (va_runV (As := [.ref h_r]) (rest := []) ⟨hx, hb, hml, hown, hts⟩ (c_Directive_readPrecision l Zo dC dI cC cI cJ cQ N o_1 o_3 o_4 r_6 d_precision d_conversion o_7 r_kept_n r_kept r_length h_d h_r h_r_kept H.size (o_8, o_9) hu) (cwV 1 hts (mm_gV q_393 q_395 q_5 q_60 q_396) rfl rfl rfl (by decide +kernel) ⟨Nat.le_of_ble_eq_true rfl, Nat.le_of_ble_eq_true rfl⟩) (mm_pv Zo.1 hK hw hZ hA [0, 1, 2] (by decide) rfl rfl (ci := 2) (q0 := 0) rfl rfl) rfl rfl hl.1 rfl (lv_room (Nat.le_of_ble_eq_true rfl)) d_Directive_read_28 ⟨Nat.le_refl _, Nat.le_refl _⟩) hw hA [0, 1, 2] [] rfl rfl (by decide) (by decide) (fun H locs hw => ?_)
  have hw : mm_w (dC, dI) vwC A s [(h_d, .inr (2, [.int o_1, .int o_3, .int o_4, .int r_6, .int o_8, .int d_conversion, .int o_9])), (h_r, .inr (0, [.ref h_r_kept, .int r_length])), (h_r_kept, .inl (cC, r_kept_n, .inl r_kept))] H locs := hw
  refine lv_aload_n hx hb d_Directive_read_31 rfl (lv_at hl 0 rfl) ?_
  refine lv_aload_n hx hb d_Directive_read_32 rfl (lv_at hl 1 rfl) ?_
  refine lv_aload_n hx hb d_Directive_read_33 rfl (lv_at hl 0 rfl) ?_
  refine va_get (D := (dC, dI)) (ci := 2) (v := .int o_9) (C := "DirectivePrinter$Directive") (T := T_Directive) (N := 7) hx hb hts (mm_up i_Directive) hown hK hw.1 0 rfl rfl 6 (by decide) (hts _ (List.mem_cons_of_mem _ q_146)) (fun _ h9 => h9) rfl d_Directive_read_34 ?_
  obtain ⟨r_10, hu, hf⟩ := mm_b1_ok hf
  refine mm_ci (wr := [(h_d, .inr (2, [.int o_1, .int o_3, .int o_4, .int r_6, .int o_8, .int d_conversion, .int o_9]))]) (va_runV (As := [.int o_9]) (rest := [.ref h_d]) ⟨hx, hb, hml, hown, hts⟩ (c_Row_at l Zo dC dI cC cI cJ cQ r_kept_n r_kept r_length o_9 h_r h_r_kept H.size r_10 hu) (cwV 1 hts (mm_gV q_289 q_274 q_275 q_55 q_276) rfl rfl rfl (by decide +kernel) ⟨Nat.le_of_ble_eq_true rfl, Nat.le_of_ble_eq_true rfl⟩) (mm_pv Zo.1 hK hw hZ hA [1, 2] (by decide) rfl rfl (ci := 0) (q0 := 0) rfl rfl) rfl rfl hl.1 rfl (lv_room (Nat.le_of_ble_eq_true rfl)) d_Directive_read_37 ⟨Nat.le_refl _, Nat.le_refl _⟩) hw hA [1, 2] [0] rfl rfl (by decide) (by decide) (fun H locs hw => ?_)
  have hw : mm_w (dC, dI) vwC A s [(h_d, .inr (2, [.int o_1, .int o_3, .int o_4, .int r_6, .int o_8, .int d_conversion, .int o_9])), (h_r, .inr (0, [.ref h_r_kept, .int r_length])), (h_r_kept, .inl (cC, r_kept_n, .inl r_kept))] H locs := hw
  refine va_put (D := (dC, dI)) (ci := 2) (v := .int r_10) (ty := .int) (C := "DirectivePrinter$Directive") (T := T_Directive) (N := 7) hx hb hts (mm_up i_Directive) t_Directive t_Directive_ok n_Directive hown hK hw.1 hw.2.1 hw.2.2 0 rfl rfl 5 (by decide) (hts _ (List.mem_cons_of_mem _ q_145)) (fun _ h9 => h9) rfl (by decide +kernel) rfl rfl (Nat.le_of_ble_eq_true rfl) d_Directive_read_40 (fun H locs hP hD hS => ?_)
  have hw : mm_w (dC, dI) vwC A s [(h_d, .inr (2, [.int o_1, .int o_3, .int o_4, .int r_6, .int o_8, .int r_10, .int o_9])), (h_r, .inr (0, [.ref h_r_kept, .int r_length])), (h_r_kept, .inl (cC, r_kept_n, .inl r_kept))] H locs := ⟨hP, hD, hS⟩
  obtain rfl := Option.some.inj hf
  exact mm_vret hx hb hr hlocks hK (mm_wsub hw [0, 1, 2] (by decide) rfl rfl) d_Directive_read_43
/-! DirectivePrinter$Argument.isFalse()Z -/
def f_Argument_isFalse (a_kind : Nat) (a_value : Int64) : Option (Int32) := (if a_kind = (0) then some ((1 : Int32)) else (if a_kind = (1) then (if (lg_cmp a_value (0 : Int64)) = 0 then some ((1 : Int32)) else some ((0 : Int32))) else some ((0 : Int32))))
abbrev r_Argument_isFalse : Room := { frames := 0, cells := 0, slots := 0, locals := 0 }
set_option maxHeartbeats 4000000 in
set_option maxRecDepth 100000 in
theorem c_Argument_isFalse (l : Launch) {Z : (Nat → Prop) → State → Heap → Prop} {ad adK adV : Nat → Nat} (Zo : mm_Zx Z ad adK adV) (dC : Nat → ClassId) (dI : Nat → Nat → Nat) (cC cI cJ cQ : ClassId) (a_kind : Nat) (a_value : Int64) (a_size : Int32) (a_characters_kept_n : Nat) (a_characters_kept : Nat → Int32) (a_characters_length : Int32) (h_a_kind_lt : a_kind < 6) (h_a h_a_characters h_a_characters_kept : Nat) (sz : Nat) (out : Int32) (hf : f_Argument_isFalse a_kind a_value = some out) : Met l y_Argument_isFalse w_Argument_isFalse r_Argument_isFalse (mm_pre (dC, dI) vwC (tyl cC cI cJ cQ) Z [(h_a, .inr (3, [.ref (ad a_kind), .long a_value, .int a_size, .ref h_a_characters])), (h_a_characters, .inr (0, [.ref h_a_characters_kept, .int a_characters_length])), (h_a_characters_kept, .inl (cC, a_characters_kept_n, .inl a_characters_kept))] sz [.ref h_a]) (mm_qi (dC, dI) vwC (tyl cC cI cJ cQ) (va_A [(h_a, .inr (3, [.ref (ad a_kind), .long a_value, .int a_size, .ref h_a_characters])), (h_a_characters, .inr (0, [.ref h_a_characters_kept, .int a_characters_length])), (h_a_characters_kept, .inl (cC, a_characters_kept_n, .inl a_characters_kept))] sz) [(h_a, .inr (3, [.ref (ad a_kind), .long a_value, .int a_size, .ref h_a_characters])), (h_a_characters, .inr (0, [.ref h_a_characters_kept, .int a_characters_length])), (h_a_characters_kept, .inl (cC, a_characters_kept_n, .inl a_characters_kept))] out) 0 0 (va_A [(h_a, .inr (3, [.ref (ad a_kind), .long a_value, .int a_size, .ref h_a_characters])), (h_a_characters, .inr (0, [.ref h_a_characters_kept, .int a_characters_length])), (h_a_characters_kept, .inl (cC, a_characters_kept_n, .inl a_characters_kept))] sz) := by
  refine mm_of (own := "DirectivePrinter$Argument") (cc := b_Argument_isFalse) (maxL := 1) (ret := (some .boolean)) (by decide) rfl rfl ?_
  intro p e s m below meth c hsz C0 hw hname
  generalize (va_A [(h_a, .inr (3, [.ref (ad a_kind), .long a_value, .int a_size, .ref h_a_characters])), (h_a_characters, .inr (0, [.ref h_a_characters_kept, .int a_characters_length])), (h_a_characters_kept, .inl (cC, a_characters_kept_n, .inl a_characters_kept))] sz) = A at C0 hw ⊢
  have hl := lv_entry ([.ref h_a]) (n := 1) (Nat.le_of_ble_eq_true rfl)
  rw [lg_entry_eq]
  generalize (lg_sl ([.ref h_a]) ++ List.replicate (1 - (lg_sl ([.ref h_a])).length) Slot.unset).toArray = ls at hl ⊢
  have hl : lv_has ls 1 [(0, .ref h_a)] := hl
  obtain ⟨hx, hb, hr, hml, hown, hts, hlocks, hK, hZ, hA⟩ := id C0
  generalize s.heap = H at hw ⊢
  unfold f_Argument_isFalse at hf
  refine lv_aload_n hx hb d_Argument_isFalse_0 rfl (lv_at hl 0 rfl) ?_
  refine va_get (D := (dC, dI)) (ci := 3) (v := .ref (ad a_kind)) (C := "DirectivePrinter$Argument") (T := T_Argument) (N := 4) hx hb hts (mm_up i_Argument) hown hK hw.1 0 rfl rfl 0 (by decide) (hts _ (List.mem_cons_of_mem _ q_110)) (fun _ h9 => h9) rfl d_Argument_isFalse_1 ?_
  refine va_gets hx hb ((Zo.2 _ _ _ hZ).2.1.1 0 (by decide)).1 hw.2.2 hown (hts _ (List.mem_cons_of_mem _ q_106)) (fun _ h9 => h9) d_Argument_isFalse_4 ?_
  refine mm_acmp_eq ((Zo.2 _ _ _ hZ).2.1.2) h_a_kind_lt (by decide) (tgt := 29) hx hb d_Argument_isFalse_7 (by decide) (fun hc => ?_) (fun hc => ?_)
  · replace hf := mm_ip hc hf
    refine lv_iconst (v := (1 : Int32)) hx hb d_Argument_isFalse_29 (by decide) ?_
    refine lv_goto (tgt := 34) hx hb d_Argument_isFalse_30 (by decide) ?_
    obtain rfl := Option.some.inj hf
    exact mm_zret hx hb hr hlocks hK (by decide) (mm_wsub hw [0, 1, 2] (by decide) rfl rfl) rfl d_Argument_isFalse_34
  · replace hf := mm_in hc hf
    refine lv_aload_n hx hb d_Argument_isFalse_10 rfl (lv_at hl 0 rfl) ?_
    refine va_get (D := (dC, dI)) (ci := 3) (v := .ref (ad a_kind)) (C := "DirectivePrinter$Argument") (T := T_Argument) (N := 4) hx hb hts (mm_up i_Argument) hown hK hw.1 0 rfl rfl 0 (by decide) (hts _ (List.mem_cons_of_mem _ q_110)) (fun _ h9 => h9) rfl d_Argument_isFalse_11 ?_
    refine va_gets hx hb ((Zo.2 _ _ _ hZ).2.1.1 1 (by decide)).1 hw.2.2 hown (hts _ (List.mem_cons_of_mem _ q_466)) (fun _ h9 => h9) d_Argument_isFalse_14 ?_
    refine mm_acmp_ne ((Zo.2 _ _ _ hZ).2.1.2) h_a_kind_lt (by decide) (tgt := 33) hx hb d_Argument_isFalse_17 (by decide) (fun hc => ?_) (fun hc => ?_)
    · replace hf := mm_in hc hf
      refine lv_iconst (v := (0 : Int32)) hx hb d_Argument_isFalse_33 (by decide) ?_
      obtain rfl := Option.some.inj hf
      exact mm_zret hx hb hr hlocks hK (by decide) (mm_wsub hw [0, 1, 2] (by decide) rfl rfl) rfl d_Argument_isFalse_34
    · replace hf := mm_ip hc hf
      refine lv_aload_n hx hb d_Argument_isFalse_20 rfl (lv_at hl 0 rfl) ?_
      refine va_get (D := (dC, dI)) (ci := 3) (v := .long a_value) (C := "DirectivePrinter$Argument") (T := T_Argument) (N := 4) hx hb hts (mm_up i_Argument) hown hK hw.1 0 rfl rfl 1 (by decide) (hts _ (List.mem_cons_of_mem _ q_113)) (fun _ h9 => h9) rfl d_Argument_isFalse_21 ?_
      refine lv_lconst (v := (0 : Int64)) hx hb d_Argument_isFalse_24 (by decide) ?_
      refine W.lcmp hx hb d_Argument_isFalse_25 ?_
      refine lv_if_ne (tgt := 33) hx hb d_Argument_isFalse_26 (by decide) (fun hc => ?_) (fun hc => ?_)
      · replace hf := mm_in hc hf
        refine lv_iconst (v := (0 : Int32)) hx hb d_Argument_isFalse_33 (by decide) ?_
        obtain rfl := Option.some.inj hf
        exact mm_zret hx hb hr hlocks hK (by decide) (mm_wsub hw [0, 1, 2] (by decide) rfl rfl) rfl d_Argument_isFalse_34
      · replace hf := mm_ip hc hf
        refine lv_iconst (v := (1 : Int32)) hx hb d_Argument_isFalse_29 (by decide) ?_
        refine lv_goto (tgt := 34) hx hb d_Argument_isFalse_30 (by decide) ?_
        obtain rfl := Option.some.inj hf
        exact mm_zret hx hb hr hlocks hK (by decide) (mm_wsub hw [0, 1, 2] (by decide) rfl rfl) rfl d_Argument_isFalse_34
/-! DirectivePrinter$Argument.scale()I -/
def f_Argument_scale (a_kind : Nat) (a_size : Int32) : Option (Int32) := (if a_kind = (5) then some (a_size) else some ((0 : Int32)))
abbrev r_Argument_scale : Room := { frames := 0, cells := 0, slots := 0, locals := 0 }
set_option maxHeartbeats 4000000 in
set_option maxRecDepth 100000 in
theorem c_Argument_scale (l : Launch) {Z : (Nat → Prop) → State → Heap → Prop} {ad adK adV : Nat → Nat} (Zo : mm_Zx Z ad adK adV) (dC : Nat → ClassId) (dI : Nat → Nat → Nat) (cC cI cJ cQ : ClassId) (a_kind : Nat) (a_value : Int64) (a_size : Int32) (a_characters_kept_n : Nat) (a_characters_kept : Nat → Int32) (a_characters_length : Int32) (h_a_kind_lt : a_kind < 6) (h_a h_a_characters h_a_characters_kept : Nat) (sz : Nat) (out : Int32) (hf : f_Argument_scale a_kind a_size = some out) : Met l y_Argument_scale w_Argument_scale r_Argument_scale (mm_pre (dC, dI) vwC (tyl cC cI cJ cQ) Z [(h_a, .inr (3, [.ref (ad a_kind), .long a_value, .int a_size, .ref h_a_characters])), (h_a_characters, .inr (0, [.ref h_a_characters_kept, .int a_characters_length])), (h_a_characters_kept, .inl (cC, a_characters_kept_n, .inl a_characters_kept))] sz [.ref h_a]) (mm_qi (dC, dI) vwC (tyl cC cI cJ cQ) (va_A [(h_a, .inr (3, [.ref (ad a_kind), .long a_value, .int a_size, .ref h_a_characters])), (h_a_characters, .inr (0, [.ref h_a_characters_kept, .int a_characters_length])), (h_a_characters_kept, .inl (cC, a_characters_kept_n, .inl a_characters_kept))] sz) [(h_a, .inr (3, [.ref (ad a_kind), .long a_value, .int a_size, .ref h_a_characters])), (h_a_characters, .inr (0, [.ref h_a_characters_kept, .int a_characters_length])), (h_a_characters_kept, .inl (cC, a_characters_kept_n, .inl a_characters_kept))] out) 0 0 (va_A [(h_a, .inr (3, [.ref (ad a_kind), .long a_value, .int a_size, .ref h_a_characters])), (h_a_characters, .inr (0, [.ref h_a_characters_kept, .int a_characters_length])), (h_a_characters_kept, .inl (cC, a_characters_kept_n, .inl a_characters_kept))] sz) := by
  refine mm_of (own := "DirectivePrinter$Argument") (cc := b_Argument_scale) (maxL := 1) (ret := (some .int)) (by decide) rfl rfl ?_
  intro p e s m below meth c hsz C0 hw hname
  generalize (va_A [(h_a, .inr (3, [.ref (ad a_kind), .long a_value, .int a_size, .ref h_a_characters])), (h_a_characters, .inr (0, [.ref h_a_characters_kept, .int a_characters_length])), (h_a_characters_kept, .inl (cC, a_characters_kept_n, .inl a_characters_kept))] sz) = A at C0 hw ⊢
  have hl := lv_entry ([.ref h_a]) (n := 1) (Nat.le_of_ble_eq_true rfl)
  rw [lg_entry_eq]
  generalize (lg_sl ([.ref h_a]) ++ List.replicate (1 - (lg_sl ([.ref h_a])).length) Slot.unset).toArray = ls at hl ⊢
  have hl : lv_has ls 1 [(0, .ref h_a)] := hl
  obtain ⟨hx, hb, hr, hml, hown, hts, hlocks, hK, hZ, hA⟩ := id C0
  generalize s.heap = H at hw ⊢
  unfold f_Argument_scale at hf
  refine lv_aload_n hx hb d_Argument_scale_0 rfl (lv_at hl 0 rfl) ?_
  refine va_get (D := (dC, dI)) (ci := 3) (v := .ref (ad a_kind)) (C := "DirectivePrinter$Argument") (T := T_Argument) (N := 4) hx hb hts (mm_up i_Argument) hown hK hw.1 0 rfl rfl 0 (by decide) (hts _ (List.mem_cons_of_mem _ q_110)) (fun _ h9 => h9) rfl d_Argument_scale_1 ?_
  refine va_gets hx hb ((Zo.2 _ _ _ hZ).2.1.1 5 (by decide)).1 hw.2.2 hown (hts _ (List.mem_cons_of_mem _ q_449)) (fun _ h9 => h9) d_Argument_scale_4 ?_
  refine mm_acmp_ne ((Zo.2 _ _ _ hZ).2.1.2) h_a_kind_lt (by decide) (tgt := 17) hx hb d_Argument_scale_7 (by decide) (fun hc => ?_) (fun hc => ?_)
  · replace hf := mm_in hc hf
    refine lv_iconst (v := (0 : Int32)) hx hb d_Argument_scale_17 (by decide) ?_
    obtain rfl := Option.some.inj hf
    exact mm_iret hx hb hr hlocks hK (mm_wsub hw [0, 1, 2] (by decide) rfl rfl) rfl d_Argument_scale_18
  · replace hf := mm_ip hc hf
    refine lv_aload_n hx hb d_Argument_scale_10 rfl (lv_at hl 0 rfl) ?_
    refine va_get (D := (dC, dI)) (ci := 3) (v := .int a_size) (C := "DirectivePrinter$Argument") (T := T_Argument) (N := 4) hx hb hts (mm_up i_Argument) hown hK hw.1 0 rfl rfl 2 (by decide) (hts _ (List.mem_cons_of_mem _ q_116)) (fun _ h9 => h9) rfl d_Argument_scale_11 ?_
    refine lv_goto (tgt := 18) hx hb d_Argument_scale_14 (by decide) ?_
    obtain rfl := Option.some.inj hf
    exact mm_iret hx hb hr hlocks hK (mm_wsub hw [0, 1, 2] (by decide) rfl rfl) rfl d_Argument_scale_18
/-! DirectivePrinter$Argument.suits(C)Z -/
def f_Argument_suits_83 (a_kind : Nat) : Option (Int32) := (if a_kind = (3) then some ((1 : Int32)) else some ((0 : Int32)))
def f_Argument_suits (a_kind : Nat) (a_size : Int32) (cv : Int32) : Option (Int32) := (if a_kind = (0) then some ((1 : Int32)) else (if cv = (98 : Int32) then some ((1 : Int32)) else (if cv = (115 : Int32) then some ((1 : Int32)) else (if cv = (99 : Int32) then (if a_kind = (2) then some ((1 : Int32)) else (if a_kind = (3) then (if (64 : Int32) ≤ a_size then some ((0 : Int32)) else some ((1 : Int32))) else some ((0 : Int32)))) else (if cv = (100 : Int32) then f_Argument_suits_83 a_kind  else (if cv = (111 : Int32) then f_Argument_suits_83 a_kind  else (if cv = (120 : Int32) then f_Argument_suits_83 a_kind  else (if a_kind = (5) then some ((1 : Int32)) else some ((0 : Int32))))))))))
abbrev r_Argument_suits : Room := { frames := 0, cells := 0, slots := 0, locals := 0 }
set_option maxHeartbeats 4000000 in
set_option maxRecDepth 100000 in
theorem b_Argument_suits_83 {h_a h_a_characters h_a_characters_kept : Nat} (Zo : mm_Zx Z ad adK adV) (C0 : mm_cx (dC, dI) vwC (tyl cC cI cJ cQ) Z p s m args meth c b_Argument_suits 2 (some .boolean) "DirectivePrinter$Argument" w_Argument_suits A) (a_kind : Nat) (a_value : Int64) (a_size : Int32) (a_characters_kept_n : Nat) (a_characters_kept : Nat → Int32) (a_characters_length : Int32) (cv : Int32) (h_a_kind_lt : a_kind < 6) (out : Int32) : f_Argument_suits_83 a_kind  = some out → ∀ (H : Heap) (locs : List Loc), mm_w (dC, dI) vwC A s [(h_a, .inr (3, [.ref (ad a_kind), .long a_value, .int a_size, .ref h_a_characters])), (h_a_characters, .inr (0, [.ref h_a_characters_kept, .int a_characters_length])), (h_a_characters_kept, .inl (cC, a_characters_kept_n, .inl a_characters_kept))] H locs → ∀ (ls : Array Slot), lv_has ls 2 [(0, .ref h_a)] → W p l e r_Argument_suits s m args below meth c H locs 0 0 (MQ below (mm_qi (dC, dI) vwC (tyl cC cI cJ cQ) A [(h_a, .inr (3, [.ref (ad a_kind), .long a_value, .int a_size, .ref h_a_characters])), (h_a_characters, .inr (0, [.ref h_a_characters_kept, .int a_characters_length])), (h_a_characters_kept, .inl (cC, a_characters_kept_n, .inl a_characters_kept))] out) args s 0 0 A) (F0 m 83 ls []) := by
  obtain ⟨hx, hb, hr, hml, hown, hts, hlocks, hK, hZ, hA⟩ := id C0
  intro  hf H locs hw ls hl
  unfold f_Argument_suits_83 at hf
  refine lv_aload_n hx hb d_Argument_suits_83 rfl (lv_at hl 0 rfl) ?_
  refine va_get (D := (dC, dI)) (ci := 3) (v := .ref (ad a_kind)) (C := "DirectivePrinter$Argument") (T := T_Argument) (N := 4) hx hb hts (mm_up i_Argument) hown hK hw.1 0 rfl rfl 0 (by decide) (hts _ (List.mem_cons_of_mem _ q_110)) (fun _ h9 => h9) rfl d_Argument_suits_84 ?_
  refine va_gets hx hb ((Zo.2 _ _ _ hZ).2.1.1 3 (by decide)).1 hw.2.2 hown (hts _ (List.mem_cons_of_mem _ q_447)) (fun _ h9 => h9) d_Argument_suits_87 ?_
  refine mm_acmp_ne ((Zo.2 _ _ _ hZ).2.1.2) h_a_kind_lt (by decide) (tgt := 97) hx hb d_Argument_suits_90 (by decide) (fun hc => ?_) (fun hc => ?_)
  · replace hf := mm_in hc hf
    refine lv_iconst (v := (0 : Int32)) hx hb d_Argument_suits_97 (by decide) ?_
    obtain rfl := Option.some.inj hf
    exact mm_zret hx hb hr hlocks hK (by decide) (mm_wsub hw [0, 1, 2] (by decide) rfl rfl) rfl d_Argument_suits_98
  · replace hf := mm_ip hc hf
    refine lv_iconst (v := (1 : Int32)) hx hb d_Argument_suits_93 (by decide) ?_
    refine lv_goto (tgt := 98) hx hb d_Argument_suits_94 (by decide) ?_
    obtain rfl := Option.some.inj hf
    exact mm_zret hx hb hr hlocks hK (by decide) (mm_wsub hw [0, 1, 2] (by decide) rfl rfl) rfl d_Argument_suits_98
set_option maxHeartbeats 4000000 in
set_option maxRecDepth 100000 in
theorem c_Argument_suits (l : Launch) {Z : (Nat → Prop) → State → Heap → Prop} {ad adK adV : Nat → Nat} (Zo : mm_Zx Z ad adK adV) (dC : Nat → ClassId) (dI : Nat → Nat → Nat) (cC cI cJ cQ : ClassId) (a_kind : Nat) (a_value : Int64) (a_size : Int32) (a_characters_kept_n : Nat) (a_characters_kept : Nat → Int32) (a_characters_length : Int32) (cv : Int32) (h_a_kind_lt : a_kind < 6) (h_a h_a_characters h_a_characters_kept : Nat) (sz : Nat) (out : Int32) (hf : f_Argument_suits a_kind a_size cv = some out) : Met l y_Argument_suits w_Argument_suits r_Argument_suits (mm_pre (dC, dI) vwC (tyl cC cI cJ cQ) Z [(h_a, .inr (3, [.ref (ad a_kind), .long a_value, .int a_size, .ref h_a_characters])), (h_a_characters, .inr (0, [.ref h_a_characters_kept, .int a_characters_length])), (h_a_characters_kept, .inl (cC, a_characters_kept_n, .inl a_characters_kept))] sz [.ref h_a, .int cv]) (mm_qi (dC, dI) vwC (tyl cC cI cJ cQ) (va_A [(h_a, .inr (3, [.ref (ad a_kind), .long a_value, .int a_size, .ref h_a_characters])), (h_a_characters, .inr (0, [.ref h_a_characters_kept, .int a_characters_length])), (h_a_characters_kept, .inl (cC, a_characters_kept_n, .inl a_characters_kept))] sz) [(h_a, .inr (3, [.ref (ad a_kind), .long a_value, .int a_size, .ref h_a_characters])), (h_a_characters, .inr (0, [.ref h_a_characters_kept, .int a_characters_length])), (h_a_characters_kept, .inl (cC, a_characters_kept_n, .inl a_characters_kept))] out) 0 0 (va_A [(h_a, .inr (3, [.ref (ad a_kind), .long a_value, .int a_size, .ref h_a_characters])), (h_a_characters, .inr (0, [.ref h_a_characters_kept, .int a_characters_length])), (h_a_characters_kept, .inl (cC, a_characters_kept_n, .inl a_characters_kept))] sz) := by
  refine mm_of (own := "DirectivePrinter$Argument") (cc := b_Argument_suits) (maxL := 2) (ret := (some .boolean)) (by decide) rfl rfl ?_
  intro p e s m below meth c hsz C0 hw hname
  generalize (va_A [(h_a, .inr (3, [.ref (ad a_kind), .long a_value, .int a_size, .ref h_a_characters])), (h_a_characters, .inr (0, [.ref h_a_characters_kept, .int a_characters_length])), (h_a_characters_kept, .inl (cC, a_characters_kept_n, .inl a_characters_kept))] sz) = A at C0 hw ⊢
  have hl := lv_entry ([.ref h_a, .int cv]) (n := 2) (Nat.le_of_ble_eq_true rfl)
  rw [lg_entry_eq]
  generalize (lg_sl ([.ref h_a, .int cv]) ++ List.replicate (2 - (lg_sl ([.ref h_a, .int cv])).length) Slot.unset).toArray = ls at hl ⊢
  have hl : lv_has ls 2 [(0, .ref h_a), (1, .int cv)] := hl
  obtain ⟨hx, hb, hr, hml, hown, hts, hlocks, hK, hZ, hA⟩ := id C0
  generalize s.heap = H at hw ⊢
  unfold f_Argument_suits at hf
  refine lv_aload_n hx hb d_Argument_suits_0 rfl (lv_at hl 0 rfl) ?_
  refine va_get (D := (dC, dI)) (ci := 3) (v := .ref (ad a_kind)) (C := "DirectivePrinter$Argument") (T := T_Argument) (N := 4) hx hb hts (mm_up i_Argument) hown hK hw.1 0 rfl rfl 0 (by decide) (hts _ (List.mem_cons_of_mem _ q_110)) (fun _ h9 => h9) rfl d_Argument_suits_1 ?_
  refine va_gets hx hb ((Zo.2 _ _ _ hZ).2.1.1 0 (by decide)).1 hw.2.2 hown (hts _ (List.mem_cons_of_mem _ q_106)) (fun _ h9 => h9) d_Argument_suits_4 ?_
  refine mm_acmp_eq ((Zo.2 _ _ _ hZ).2.1.2) h_a_kind_lt (by decide) (tgt := 22) hx hb d_Argument_suits_7 (by decide) (fun hc => ?_) (fun hc => ?_)
  · replace hf := mm_ip hc hf
    refine lv_iconst (v := (1 : Int32)) hx hb d_Argument_suits_22 (by decide) ?_
    obtain rfl := Option.some.inj hf
    exact mm_zret hx hb hr hlocks hK (by decide) (mm_wsub hw [0, 1, 2] (by decide) rfl rfl) rfl d_Argument_suits_23
  · replace hf := mm_in hc hf
    refine lv_iload_n hx hb d_Argument_suits_10 rfl (lv_at hl 1 rfl) ?_
    refine lv_bipush (v := (98 : Int32)) hx hb d_Argument_suits_11 (by decide) ?_
    refine lv_icmp_eq (tgt := 22) hx hb d_Argument_suits_13 (by decide) (fun hc => ?_) (fun hc => ?_)
    · replace hf := mm_ip hc hf
      refine lv_iconst (v := (1 : Int32)) hx hb d_Argument_suits_22 (by decide) ?_
      obtain rfl := Option.some.inj hf
      exact mm_zret hx hb hr hlocks hK (by decide) (mm_wsub hw [0, 1, 2] (by decide) rfl rfl) rfl d_Argument_suits_23
    · replace hf := mm_in hc hf
      refine lv_iload_n hx hb d_Argument_suits_16 rfl (lv_at hl 1 rfl) ?_
      refine lv_bipush (v := (115 : Int32)) hx hb d_Argument_suits_17 (by decide) ?_
      refine lv_icmp_ne (tgt := 24) hx hb d_Argument_suits_19 (by decide) (fun hc => ?_) (fun hc => ?_)
      · replace hf := mm_in hc hf
        refine lv_iload_n hx hb d_Argument_suits_24 rfl (lv_at hl 1 rfl) ?_
        refine lv_bipush (v := (99 : Int32)) hx hb d_Argument_suits_25 (by decide) ?_
        refine lv_icmp_ne (tgt := 65) hx hb d_Argument_suits_27 (by decide) (fun hc => ?_) (fun hc => ?_)
        · replace hf := mm_in hc hf
          refine lv_iload_n hx hb d_Argument_suits_65 rfl (lv_at hl 1 rfl) ?_
          refine lv_bipush (v := (100 : Int32)) hx hb d_Argument_suits_66 (by decide) ?_
          refine lv_icmp_eq (tgt := 83) hx hb d_Argument_suits_68 (by decide) (fun hc => ?_) (fun hc => ?_)
          · replace hf := mm_ip hc hf
            exact b_Argument_suits_83 Zo C0 a_kind a_value a_size a_characters_kept_n a_characters_kept a_characters_length cv h_a_kind_lt out  hf _ _ hw _ (lv_sub hl [0] rfl)
          · replace hf := mm_in hc hf
            refine lv_iload_n hx hb d_Argument_suits_71 rfl (lv_at hl 1 rfl) ?_
            refine lv_bipush (v := (111 : Int32)) hx hb d_Argument_suits_72 (by decide) ?_
            refine lv_icmp_eq (tgt := 83) hx hb d_Argument_suits_74 (by decide) (fun hc => ?_) (fun hc => ?_)
            · replace hf := mm_ip hc hf
              exact b_Argument_suits_83 Zo C0 a_kind a_value a_size a_characters_kept_n a_characters_kept a_characters_length cv h_a_kind_lt out  hf _ _ hw _ (lv_sub hl [0] rfl)
            · replace hf := mm_in hc hf
              refine lv_iload_n hx hb d_Argument_suits_77 rfl (lv_at hl 1 rfl) ?_
              refine lv_bipush (v := (120 : Int32)) hx hb d_Argument_suits_78 (by decide) ?_
              refine lv_icmp_ne (tgt := 99) hx hb d_Argument_suits_80 (by decide) (fun hc => ?_) (fun hc => ?_)
              · replace hf := mm_in hc hf
                refine lv_aload_n hx hb d_Argument_suits_99 rfl (lv_at hl 0 rfl) ?_
                refine va_get (D := (dC, dI)) (ci := 3) (v := .ref (ad a_kind)) (C := "DirectivePrinter$Argument") (T := T_Argument) (N := 4) hx hb hts (mm_up i_Argument) hown hK hw.1 0 rfl rfl 0 (by decide) (hts _ (List.mem_cons_of_mem _ q_110)) (fun _ h9 => h9) rfl d_Argument_suits_100 ?_
                refine va_gets hx hb ((Zo.2 _ _ _ hZ).2.1.1 5 (by decide)).1 hw.2.2 hown (hts _ (List.mem_cons_of_mem _ q_449)) (fun _ h9 => h9) d_Argument_suits_103 ?_
                refine mm_acmp_ne ((Zo.2 _ _ _ hZ).2.1.2) h_a_kind_lt (by decide) (tgt := 113) hx hb d_Argument_suits_106 (by decide) (fun hc => ?_) (fun hc => ?_)
                · replace hf := mm_in hc hf
                  refine lv_iconst (v := (0 : Int32)) hx hb d_Argument_suits_113 (by decide) ?_
                  obtain rfl := Option.some.inj hf
                  exact mm_zret hx hb hr hlocks hK (by decide) (mm_wsub hw [0, 1, 2] (by decide) rfl rfl) rfl d_Argument_suits_114
                · replace hf := mm_ip hc hf
                  refine lv_iconst (v := (1 : Int32)) hx hb d_Argument_suits_109 (by decide) ?_
                  refine lv_goto (tgt := 114) hx hb d_Argument_suits_110 (by decide) ?_
                  obtain rfl := Option.some.inj hf
                  exact mm_zret hx hb hr hlocks hK (by decide) (mm_wsub hw [0, 1, 2] (by decide) rfl rfl) rfl d_Argument_suits_114
              · replace hf := mm_ip hc hf
                exact b_Argument_suits_83 Zo C0 a_kind a_value a_size a_characters_kept_n a_characters_kept a_characters_length cv h_a_kind_lt out  hf _ _ hw _ (lv_sub hl [0] rfl)
        · replace hf := mm_ip hc hf
          refine lv_aload_n hx hb d_Argument_suits_30 rfl (lv_at hl 0 rfl) ?_
          refine va_get (D := (dC, dI)) (ci := 3) (v := .ref (ad a_kind)) (C := "DirectivePrinter$Argument") (T := T_Argument) (N := 4) hx hb hts (mm_up i_Argument) hown hK hw.1 0 rfl rfl 0 (by decide) (hts _ (List.mem_cons_of_mem _ q_110)) (fun _ h9 => h9) rfl d_Argument_suits_31 ?_
          refine va_gets hx hb ((Zo.2 _ _ _ hZ).2.1.1 2 (by decide)).1 hw.2.2 hown (hts _ (List.mem_cons_of_mem _ q_445)) (fun _ h9 => h9) d_Argument_suits_34 ?_
          refine mm_acmp_eq ((Zo.2 _ _ _ hZ).2.1.2) h_a_kind_lt (by decide) (tgt := 59) hx hb d_Argument_suits_37 (by decide) (fun hc => ?_) (fun hc => ?_)
          · replace hf := mm_ip hc hf
            refine lv_iconst (v := (1 : Int32)) hx hb d_Argument_suits_59 (by decide) ?_
            refine lv_goto (tgt := 64) hx hb d_Argument_suits_60 (by decide) ?_
            obtain rfl := Option.some.inj hf
            exact mm_zret hx hb hr hlocks hK (by decide) (mm_wsub hw [0, 1, 2] (by decide) rfl rfl) rfl d_Argument_suits_64
          · replace hf := mm_in hc hf
            refine lv_aload_n hx hb d_Argument_suits_40 rfl (lv_at hl 0 rfl) ?_
            refine va_get (D := (dC, dI)) (ci := 3) (v := .ref (ad a_kind)) (C := "DirectivePrinter$Argument") (T := T_Argument) (N := 4) hx hb hts (mm_up i_Argument) hown hK hw.1 0 rfl rfl 0 (by decide) (hts _ (List.mem_cons_of_mem _ q_110)) (fun _ h9 => h9) rfl d_Argument_suits_41 ?_
            refine va_gets hx hb ((Zo.2 _ _ _ hZ).2.1.1 3 (by decide)).1 hw.2.2 hown (hts _ (List.mem_cons_of_mem _ q_447)) (fun _ h9 => h9) d_Argument_suits_44 ?_
            refine mm_acmp_ne ((Zo.2 _ _ _ hZ).2.1.2) h_a_kind_lt (by decide) (tgt := 63) hx hb d_Argument_suits_47 (by decide) (fun hc => ?_) (fun hc => ?_)
            · replace hf := mm_in hc hf
              refine lv_iconst (v := (0 : Int32)) hx hb d_Argument_suits_63 (by decide) ?_
              obtain rfl := Option.some.inj hf
              exact mm_zret hx hb hr hlocks hK (by decide) (mm_wsub hw [0, 1, 2] (by decide) rfl rfl) rfl d_Argument_suits_64
            · replace hf := mm_ip hc hf
              refine lv_aload_n hx hb d_Argument_suits_50 rfl (lv_at hl 0 rfl) ?_
              refine va_get (D := (dC, dI)) (ci := 3) (v := .int a_size) (C := "DirectivePrinter$Argument") (T := T_Argument) (N := 4) hx hb hts (mm_up i_Argument) hown hK hw.1 0 rfl rfl 2 (by decide) (hts _ (List.mem_cons_of_mem _ q_116)) (fun _ h9 => h9) rfl d_Argument_suits_51 ?_
              refine lv_bipush (v := (64 : Int32)) hx hb d_Argument_suits_54 (by decide) ?_
              refine lv_icmp_ge (tgt := 63) hx hb d_Argument_suits_56 (by decide) (fun hc => ?_) (fun hc => ?_)
              · replace hf := mm_ip hc hf
                refine lv_iconst (v := (0 : Int32)) hx hb d_Argument_suits_63 (by decide) ?_
                obtain rfl := Option.some.inj hf
                exact mm_zret hx hb hr hlocks hK (by decide) (mm_wsub hw [0, 1, 2] (by decide) rfl rfl) rfl d_Argument_suits_64
              · replace hf := mm_in hc hf
                refine lv_iconst (v := (1 : Int32)) hx hb d_Argument_suits_59 (by decide) ?_
                refine lv_goto (tgt := 64) hx hb d_Argument_suits_60 (by decide) ?_
                obtain rfl := Option.some.inj hf
                exact mm_zret hx hb hr hlocks hK (by decide) (mm_wsub hw [0, 1, 2] (by decide) rfl rfl) rfl d_Argument_suits_64
      · replace hf := mm_ip hc hf
        refine lv_iconst (v := (1 : Int32)) hx hb d_Argument_suits_22 (by decide) ?_
        obtain rfl := Option.some.inj hf
        exact mm_zret hx hb hr hlocks hK (by decide) (mm_wsub hw [0, 1, 2] (by decide) rfl rfl) rfl d_Argument_suits_23
/-! DirectivePrinter$Argument.faultWith(C)I -/
def f_Argument_faultWith (a_kind : Nat) (a_value : Int64) (a_size : Int32) (cv : Int32) : Option (Int32) := mm_b1 (f_Argument_suits a_kind a_size cv) (fun r_1 => (if r_1 = 0 then some ((10 : Int32)) else (if cv = (99 : Int32) then (if a_kind = (3) then (if (lg_cmp a_value (0 : Int64)) < 0 then some ((11 : Int32)) else (if (lg_cmp a_value (255 : Int64)) ≤ 0 then some ((0 : Int32)) else some ((11 : Int32)))) else some ((0 : Int32))) else some ((0 : Int32)))))
abbrev r_Argument_faultWith : Room := { frames := 1, cells := 0, slots := 0, locals := 21 }
set_option maxHeartbeats 4000000 in
set_option maxRecDepth 100000 in
theorem c_Argument_faultWith (l : Launch) {Z : (Nat → Prop) → State → Heap → Prop} {ad adK adV : Nat → Nat} (Zo : mm_Zx Z ad adK adV) (dC : Nat → ClassId) (dI : Nat → Nat → Nat) (cC cI cJ cQ : ClassId) (a_kind : Nat) (a_value : Int64) (a_size : Int32) (a_characters_kept_n : Nat) (a_characters_kept : Nat → Int32) (a_characters_length : Int32) (cv : Int32) (h_a_kind_lt : a_kind < 6) (h_a h_a_characters h_a_characters_kept : Nat) (sz : Nat) (out : Int32) (hf : f_Argument_faultWith a_kind a_value a_size cv = some out) : Met l y_Argument_faultWith w_Argument_faultWith r_Argument_faultWith (mm_pre (dC, dI) vwC (tyl cC cI cJ cQ) Z [(h_a, .inr (3, [.ref (ad a_kind), .long a_value, .int a_size, .ref h_a_characters])), (h_a_characters, .inr (0, [.ref h_a_characters_kept, .int a_characters_length])), (h_a_characters_kept, .inl (cC, a_characters_kept_n, .inl a_characters_kept))] sz [.ref h_a, .int cv]) (mm_qi (dC, dI) vwC (tyl cC cI cJ cQ) (va_A [(h_a, .inr (3, [.ref (ad a_kind), .long a_value, .int a_size, .ref h_a_characters])), (h_a_characters, .inr (0, [.ref h_a_characters_kept, .int a_characters_length])), (h_a_characters_kept, .inl (cC, a_characters_kept_n, .inl a_characters_kept))] sz) [(h_a, .inr (3, [.ref (ad a_kind), .long a_value, .int a_size, .ref h_a_characters])), (h_a_characters, .inr (0, [.ref h_a_characters_kept, .int a_characters_length])), (h_a_characters_kept, .inl (cC, a_characters_kept_n, .inl a_characters_kept))] out) 0 0 (va_A [(h_a, .inr (3, [.ref (ad a_kind), .long a_value, .int a_size, .ref h_a_characters])), (h_a_characters, .inr (0, [.ref h_a_characters_kept, .int a_characters_length])), (h_a_characters_kept, .inl (cC, a_characters_kept_n, .inl a_characters_kept))] sz) := by
  refine mm_of (own := "DirectivePrinter$Argument") (cc := b_Argument_faultWith) (maxL := 2) (ret := (some .int)) (by decide) rfl rfl ?_
  intro p e s m below meth c hsz C0 hw hname
  generalize (va_A [(h_a, .inr (3, [.ref (ad a_kind), .long a_value, .int a_size, .ref h_a_characters])), (h_a_characters, .inr (0, [.ref h_a_characters_kept, .int a_characters_length])), (h_a_characters_kept, .inl (cC, a_characters_kept_n, .inl a_characters_kept))] sz) = A at C0 hw ⊢
  have hl := lv_entry ([.ref h_a, .int cv]) (n := 2) (Nat.le_of_ble_eq_true rfl)
  rw [lg_entry_eq]
  generalize (lg_sl ([.ref h_a, .int cv]) ++ List.replicate (2 - (lg_sl ([.ref h_a, .int cv])).length) Slot.unset).toArray = ls at hl ⊢
  have hl : lv_has ls 2 [(0, .ref h_a), (1, .int cv)] := hl
  obtain ⟨hx, hb, hr, hml, hown, hts, hlocks, hK, hZ, hA⟩ := id C0
  generalize s.heap = H at hw ⊢
  unfold f_Argument_faultWith at hf
  refine lv_aload_n hx hb d_Argument_faultWith_0 rfl (lv_at hl 0 rfl) ?_
  refine lv_iload_n hx hb d_Argument_faultWith_1 rfl (lv_at hl 1 rfl) ?_
  obtain ⟨r_1, hu, hf⟩ := mm_b1_ok hf
  refine mm_ci (wr := []) (va_runV (As := [.int cv]) (rest := []) ⟨hx, hb, hml, hown, hts⟩ (c_Argument_suits l Zo dC dI cC cI cJ cQ a_kind a_value a_size a_characters_kept_n a_characters_kept a_characters_length cv h_a_kind_lt h_a h_a_characters h_a_characters_kept H.size r_1 hu) (cwV 1 hts (mm_gV q_441 q_443 q_11 q_57 q_444) rfl rfl rfl (by decide +kernel) ⟨Nat.le_of_ble_eq_true rfl, Nat.le_of_ble_eq_true rfl⟩) (mm_pv Zo.1 hK hw hZ hA [0, 1, 2] (by decide) rfl rfl (ci := 3) (q0 := 0) rfl rfl) rfl rfl hl.1 rfl (lv_room (Nat.le_of_ble_eq_true rfl)) d_Argument_faultWith_2 ⟨Nat.le_refl _, Nat.le_refl _⟩) hw hA [0, 1, 2] [] rfl rfl (by decide) (by decide) (fun H locs hw => ?_)
  have hw : mm_w (dC, dI) vwC A s [(h_a, .inr (3, [.ref (ad a_kind), .long a_value, .int a_size, .ref h_a_characters])), (h_a_characters, .inr (0, [.ref h_a_characters_kept, .int a_characters_length])), (h_a_characters_kept, .inl (cC, a_characters_kept_n, .inl a_characters_kept))] H locs := hw
  refine lv_if_ne (tgt := 11) hx hb d_Argument_faultWith_5 (by decide) (fun hc => ?_) (fun hc => ?_)
  · replace hf := mm_in hc hf
    refine lv_iload_n hx hb d_Argument_faultWith_11 rfl (lv_at hl 1 rfl) ?_
    refine lv_bipush (v := (99 : Int32)) hx hb d_Argument_faultWith_12 (by decide) ?_
    refine lv_icmp_ne (tgt := 50) hx hb d_Argument_faultWith_14 (by decide) (fun hc => ?_) (fun hc => ?_)
    · replace hf := mm_in hc hf
      refine lv_iconst (v := (0 : Int32)) hx hb d_Argument_faultWith_50 (by decide) ?_
      obtain rfl := Option.some.inj hf
      exact mm_iret hx hb hr hlocks hK (mm_wsub hw [0, 1, 2] (by decide) rfl rfl) rfl d_Argument_faultWith_51
    · replace hf := mm_ip hc hf
      refine lv_aload_n hx hb d_Argument_faultWith_17 rfl (lv_at hl 0 rfl) ?_
      refine va_get (D := (dC, dI)) (ci := 3) (v := .ref (ad a_kind)) (C := "DirectivePrinter$Argument") (T := T_Argument) (N := 4) hx hb hts (mm_up i_Argument) hown hK hw.1 0 rfl rfl 0 (by decide) (hts _ (List.mem_cons_of_mem _ q_110)) (fun _ h9 => h9) rfl d_Argument_faultWith_18 ?_
      refine va_gets hx hb ((Zo.2 _ _ _ hZ).2.1.1 3 (by decide)).1 hw.2.2 hown (hts _ (List.mem_cons_of_mem _ q_447)) (fun _ h9 => h9) d_Argument_faultWith_21 ?_
      refine mm_acmp_ne ((Zo.2 _ _ _ hZ).2.1.2) h_a_kind_lt (by decide) (tgt := 50) hx hb d_Argument_faultWith_24 (by decide) (fun hc => ?_) (fun hc => ?_)
      · replace hf := mm_in hc hf
        refine lv_iconst (v := (0 : Int32)) hx hb d_Argument_faultWith_50 (by decide) ?_
        obtain rfl := Option.some.inj hf
        exact mm_iret hx hb hr hlocks hK (mm_wsub hw [0, 1, 2] (by decide) rfl rfl) rfl d_Argument_faultWith_51
      · replace hf := mm_ip hc hf
        refine lv_aload_n hx hb d_Argument_faultWith_27 rfl (lv_at hl 0 rfl) ?_
        refine va_get (D := (dC, dI)) (ci := 3) (v := .long a_value) (C := "DirectivePrinter$Argument") (T := T_Argument) (N := 4) hx hb hts (mm_up i_Argument) hown hK hw.1 0 rfl rfl 1 (by decide) (hts _ (List.mem_cons_of_mem _ q_113)) (fun _ h9 => h9) rfl d_Argument_faultWith_28 ?_
        refine lv_lconst (v := (0 : Int64)) hx hb d_Argument_faultWith_31 (by decide) ?_
        refine W.lcmp hx hb d_Argument_faultWith_32 ?_
        refine lv_if_lt (tgt := 47) hx hb d_Argument_faultWith_33 (by decide) (fun hc => ?_) (fun hc => ?_)
        · replace hf := mm_ip hc hf
          refine lv_bipush (v := (11 : Int32)) hx hb d_Argument_faultWith_47 (by decide) ?_
          obtain rfl := Option.some.inj hf
          exact mm_iret hx hb hr hlocks hK (mm_wsub hw [0, 1, 2] (by decide) rfl rfl) rfl d_Argument_faultWith_49
        · replace hf := mm_in hc hf
          refine lv_aload_n hx hb d_Argument_faultWith_36 rfl (lv_at hl 0 rfl) ?_
          refine va_get (D := (dC, dI)) (ci := 3) (v := .long a_value) (C := "DirectivePrinter$Argument") (T := T_Argument) (N := 4) hx hb hts (mm_up i_Argument) hown hK hw.1 0 rfl rfl 1 (by decide) (hts _ (List.mem_cons_of_mem _ q_113)) (fun _ h9 => h9) rfl d_Argument_faultWith_37 ?_
          refine lv_ldc2 (v := (255 : Int64)) hx hb hown (hts _ (List.mem_cons_of_mem _ q_451)) d_Argument_faultWith_40 ?_
          refine W.lcmp hx hb d_Argument_faultWith_43 ?_
          refine lv_if_le (tgt := 50) hx hb d_Argument_faultWith_44 (by decide) (fun hc => ?_) (fun hc => ?_)
          · replace hf := mm_ip hc hf
            refine lv_iconst (v := (0 : Int32)) hx hb d_Argument_faultWith_50 (by decide) ?_
            obtain rfl := Option.some.inj hf
            exact mm_iret hx hb hr hlocks hK (mm_wsub hw [0, 1, 2] (by decide) rfl rfl) rfl d_Argument_faultWith_51
          · replace hf := mm_in hc hf
            refine lv_bipush (v := (11 : Int32)) hx hb d_Argument_faultWith_47 (by decide) ?_
            obtain rfl := Option.some.inj hf
            exact mm_iret hx hb hr hlocks hK (mm_wsub hw [0, 1, 2] (by decide) rfl rfl) rfl d_Argument_faultWith_49
  · replace hf := mm_ip hc hf
    refine lv_bipush (v := (10 : Int32)) hx hb d_Argument_faultWith_8 (by decide) ?_
    obtain rfl := Option.some.inj hf
    exact mm_iret hx hb hr hlocks hK (mm_wsub hw [0, 1, 2] (by decide) rfl rfl) rfl d_Argument_faultWith_10
end
