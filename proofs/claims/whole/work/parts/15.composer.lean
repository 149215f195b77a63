section
variable {p : Program} {l : Launch} {e : Env} {s : State} {m : MethodId} {args : Array Value} {below : List Frame} {meth : Method} {c : Code} {dC : Nat → ClassId} {dI : Nat → Nat → Nat} {cC cI cJ cQ : ClassId} {A : Nat → Prop} {Z : (Nat → Prop) → State → Heap → Prop} {ad adK adV : Nat → Nat}
abbrev b_Composer_shorten : ByteArray := prog_3_method_3_code
abbrev y_Composer_shorten : MethodName := ⟨"DirectivePrinter$Composer", "shorten", "(LDirectivePrinter$Directive;)V"⟩
def w_Composer_shorten : List Cond := .code y_Composer_shorten b_Composer_shorten 2 none :: lw_g
theorem d_Composer_shorten_0 : decode b_Composer_shorten 0 = .ok (.aload_n 1, 1) := by decide +kernel
theorem d_Composer_shorten_1 : decode b_Composer_shorten 1 = .ok (.getfield 108, 3) := by decide +kernel
theorem d_Composer_shorten_4 : decode b_Composer_shorten 4 = .ok (.iconst (-1), 1) := by decide +kernel
theorem d_Composer_shorten_5 : decode b_Composer_shorten 5 = .ok (.if_icmp .eq 19, 3) := by decide +kernel
theorem d_Composer_shorten_8 : decode b_Composer_shorten 8 = .ok (.aload_n 0, 1) := by decide +kernel
theorem d_Composer_shorten_9 : decode b_Composer_shorten 9 = .ok (.getfield 14, 3) := by decide +kernel
theorem d_Composer_shorten_12 : decode b_Composer_shorten 12 = .ok (.aload_n 0, 1) := by decide +kernel
theorem d_Composer_shorten_13 : decode b_Composer_shorten 13 = .ok (.getfield 27, 3) := by decide +kernel
theorem d_Composer_shorten_16 : decode b_Composer_shorten 16 = .ok (.aload_n 1, 1) := by decide +kernel
theorem d_Composer_shorten_17 : decode b_Composer_shorten 17 = .ok (.getfield 108, 3) := by decide +kernel
theorem d_Composer_shorten_20 : decode b_Composer_shorten 20 = .ok (.iadd, 1) := by decide +kernel
theorem d_Composer_shorten_21 : decode b_Composer_shorten 21 = .ok (.invokevirtual 111, 3) := by decide +kernel
theorem d_Composer_shorten_24 : decode b_Composer_shorten 24 = .ok (.return_, 1) := by decide +kernel
abbrev b_Composer_widen : ByteArray := prog_3_method_4_code
abbrev y_Composer_widen : MethodName := ⟨"DirectivePrinter$Composer", "widen", "(LDirectivePrinter$Directive;)V"⟩
def w_Composer_widen : List Cond := .code y_Composer_widen b_Composer_widen 3 none :: lw_g
theorem d_Composer_widen_0 : decode b_Composer_widen 0 = .ok (.aload_n 1, 1) := by decide +kernel
theorem d_Composer_widen_1 : decode b_Composer_widen 1 = .ok (.getfield 114, 3) := by decide +kernel
theorem d_Composer_widen_4 : decode b_Composer_widen 4 = .ok (.aload_n 0, 1) := by decide +kernel
theorem d_Composer_widen_5 : decode b_Composer_widen 5 = .ok (.getfield 14, 3) := by decide +kernel
theorem d_Composer_widen_8 : decode b_Composer_widen 8 = .ok (.invokevirtual 41, 3) := by decide +kernel
theorem d_Composer_widen_11 : decode b_Composer_widen 11 = .ok (.aload_n 0, 1) := by decide +kernel
theorem d_Composer_widen_12 : decode b_Composer_widen 12 = .ok (.getfield 27, 3) := by decide +kernel
theorem d_Composer_widen_15 : decode b_Composer_widen 15 = .ok (.isub, 1) := by decide +kernel
theorem d_Composer_widen_16 : decode b_Composer_widen 16 = .ok (.isub, 1) := by decide +kernel
theorem d_Composer_widen_17 : decode b_Composer_widen 17 = .ok (.istore_n 2, 1) := by decide +kernel
theorem d_Composer_widen_18 : decode b_Composer_widen 18 = .ok (.aload_n 1, 1) := by decide +kernel
theorem d_Composer_widen_19 : decode b_Composer_widen 19 = .ok (.iconst 1, 1) := by decide +kernel
theorem d_Composer_widen_20 : decode b_Composer_widen 20 = .ok (.invokevirtual 117, 3) := by decide +kernel
theorem d_Composer_widen_23 : decode b_Composer_widen 23 = .ok (.ifCond .eq 16, 3) := by decide +kernel
theorem d_Composer_widen_26 : decode b_Composer_widen 26 = .ok (.aload_n 0, 1) := by decide +kernel
theorem d_Composer_widen_27 : decode b_Composer_widen 27 = .ok (.getfield 14, 3) := by decide +kernel
theorem d_Composer_widen_30 : decode b_Composer_widen 30 = .ok (.bipush 32, 2) := by decide +kernel
theorem d_Composer_widen_32 : decode b_Composer_widen 32 = .ok (.iload_n 2, 1) := by decide +kernel
theorem d_Composer_widen_33 : decode b_Composer_widen 33 = .ok (.invokevirtual 121, 3) := by decide +kernel
theorem d_Composer_widen_36 : decode b_Composer_widen 36 = .ok (.goto 51, 3) := by decide +kernel
theorem d_Composer_widen_39 : decode b_Composer_widen 39 = .ok (.aload_n 1, 1) := by decide +kernel
theorem d_Composer_widen_40 : decode b_Composer_widen 40 = .ok (.bipush 8, 2) := by decide +kernel
theorem d_Composer_widen_42 : decode b_Composer_widen 42 = .ok (.invokevirtual 117, 3) := by decide +kernel
theorem d_Composer_widen_45 : decode b_Composer_widen 45 = .ok (.ifCond .eq 28, 3) := by decide +kernel
theorem d_Composer_widen_48 : decode b_Composer_widen 48 = .ok (.aload_n 0, 1) := by decide +kernel
theorem d_Composer_widen_49 : decode b_Composer_widen 49 = .ok (.getfield 31, 3) := by decide +kernel
theorem d_Composer_widen_52 : decode b_Composer_widen 52 = .ok (.iconst (-1), 1) := by decide +kernel
theorem d_Composer_widen_53 : decode b_Composer_widen 53 = .ok (.if_icmp .eq 20, 3) := by decide +kernel
theorem d_Composer_widen_56 : decode b_Composer_widen 56 = .ok (.aload_n 0, 1) := by decide +kernel
theorem d_Composer_widen_57 : decode b_Composer_widen 57 = .ok (.getfield 14, 3) := by decide +kernel
theorem d_Composer_widen_60 : decode b_Composer_widen 60 = .ok (.aload_n 0, 1) := by decide +kernel
theorem d_Composer_widen_61 : decode b_Composer_widen 61 = .ok (.getfield 31, 3) := by decide +kernel
theorem d_Composer_widen_64 : decode b_Composer_widen 64 = .ok (.bipush 48, 2) := by decide +kernel
theorem d_Composer_widen_66 : decode b_Composer_widen 66 = .ok (.iload_n 2, 1) := by decide +kernel
theorem d_Composer_widen_67 : decode b_Composer_widen 67 = .ok (.invokevirtual 125, 3) := by decide +kernel
theorem d_Composer_widen_70 : decode b_Composer_widen 70 = .ok (.goto 17, 3) := by decide +kernel
theorem d_Composer_widen_73 : decode b_Composer_widen 73 = .ok (.aload_n 0, 1) := by decide +kernel
theorem d_Composer_widen_74 : decode b_Composer_widen 74 = .ok (.getfield 14, 3) := by decide +kernel
theorem d_Composer_widen_77 : decode b_Composer_widen 77 = .ok (.aload_n 0, 1) := by decide +kernel
theorem d_Composer_widen_78 : decode b_Composer_widen 78 = .ok (.getfield 27, 3) := by decide +kernel
theorem d_Composer_widen_81 : decode b_Composer_widen 81 = .ok (.bipush 32, 2) := by decide +kernel
theorem d_Composer_widen_83 : decode b_Composer_widen 83 = .ok (.iload_n 2, 1) := by decide +kernel
theorem d_Composer_widen_84 : decode b_Composer_widen 84 = .ok (.invokevirtual 125, 3) := by decide +kernel
theorem d_Composer_widen_87 : decode b_Composer_widen 87 = .ok (.return_, 1) := by decide +kernel
abbrev b_Composer_addBehindPoint : ByteArray := prog_3_method_11_code
abbrev y_Composer_addBehindPoint : MethodName := ⟨"DirectivePrinter$Composer", "addBehindPoint", "(IZ)V"⟩
def w_Composer_addBehindPoint : List Cond := .code y_Composer_addBehindPoint b_Composer_addBehindPoint 5 none :: lw_g
theorem d_Composer_addBehindPoint_0 : decode b_Composer_addBehindPoint 0 = .ok (.aload_n 0, 1) := by decide +kernel
theorem d_Composer_addBehindPoint_1 : decode b_Composer_addBehindPoint 1 = .ok (.getfield 34, 3) := by decide +kernel
theorem d_Composer_addBehindPoint_4 : decode b_Composer_addBehindPoint 4 = .ok (.ifCond .gt 7, 3) := by decide +kernel
theorem d_Composer_addBehindPoint_7 : decode b_Composer_addBehindPoint 7 = .ok (.iload_n 2, 1) := by decide +kernel
theorem d_Composer_addBehindPoint_8 : decode b_Composer_addBehindPoint 8 = .ok (.ifCond .eq 12, 3) := by decide +kernel
theorem d_Composer_addBehindPoint_11 : decode b_Composer_addBehindPoint 11 = .ok (.aload_n 0, 1) := by decide +kernel
theorem d_Composer_addBehindPoint_12 : decode b_Composer_addBehindPoint 12 = .ok (.getfield 14, 3) := by decide +kernel
theorem d_Composer_addBehindPoint_15 : decode b_Composer_addBehindPoint 15 = .ok (.bipush 46, 2) := by decide +kernel
theorem d_Composer_addBehindPoint_17 : decode b_Composer_addBehindPoint 17 = .ok (.invokevirtual 51, 3) := by decide +kernel
theorem d_Composer_addBehindPoint_20 : decode b_Composer_addBehindPoint 20 = .ok (.aload_n 0, 1) := by decide +kernel
theorem d_Composer_addBehindPoint_21 : decode b_Composer_addBehindPoint 21 = .ok (.getfield 34, 3) := by decide +kernel
theorem d_Composer_addBehindPoint_24 : decode b_Composer_addBehindPoint 24 = .ok (.iload_n 1, 1) := by decide +kernel
theorem d_Composer_addBehindPoint_25 : decode b_Composer_addBehindPoint 25 = .ok (.aload_n 0, 1) := by decide +kernel
theorem d_Composer_addBehindPoint_26 : decode b_Composer_addBehindPoint 26 = .ok (.getfield 23, 3) := by decide +kernel
theorem d_Composer_addBehindPoint_29 : decode b_Composer_addBehindPoint 29 = .ok (.invokevirtual 203, 3) := by decide +kernel
theorem d_Composer_addBehindPoint_32 : decode b_Composer_addBehindPoint 32 = .ok (.isub, 1) := by decide +kernel
theorem d_Composer_addBehindPoint_33 : decode b_Composer_addBehindPoint 33 = .ok (.iconst 1, 1) := by decide +kernel
theorem d_Composer_addBehindPoint_34 : decode b_Composer_addBehindPoint 34 = .ok (.iadd, 1) := by decide +kernel
theorem d_Composer_addBehindPoint_35 : decode b_Composer_addBehindPoint 35 = .ok (.iconst 0, 1) := by decide +kernel
theorem d_Composer_addBehindPoint_36 : decode b_Composer_addBehindPoint 36 = .ok (.invokestatic 183, 3) := by decide +kernel
theorem d_Composer_addBehindPoint_39 : decode b_Composer_addBehindPoint 39 = .ok (.invokestatic 206, 3) := by decide +kernel
theorem d_Composer_addBehindPoint_42 : decode b_Composer_addBehindPoint 42 = .ok (.istore_n 3, 1) := by decide +kernel
theorem d_Composer_addBehindPoint_43 : decode b_Composer_addBehindPoint 43 = .ok (.iconst 0, 1) := by decide +kernel
theorem d_Composer_addBehindPoint_44 : decode b_Composer_addBehindPoint 44 = .ok (.istore 4, 2) := by decide +kernel
theorem d_Composer_addBehindPoint_46 : decode b_Composer_addBehindPoint 46 = .ok (.iload 4, 2) := by decide +kernel
theorem d_Composer_addBehindPoint_48 : decode b_Composer_addBehindPoint 48 = .ok (.iload_n 3, 1) := by decide +kernel
theorem d_Composer_addBehindPoint_49 : decode b_Composer_addBehindPoint 49 = .ok (.if_icmp .ge 27, 3) := by decide +kernel
theorem d_Composer_addBehindPoint_52 : decode b_Composer_addBehindPoint 52 = .ok (.aload_n 0, 1) := by decide +kernel
theorem d_Composer_addBehindPoint_53 : decode b_Composer_addBehindPoint 53 = .ok (.getfield 14, 3) := by decide +kernel
theorem d_Composer_addBehindPoint_56 : decode b_Composer_addBehindPoint 56 = .ok (.aload_n 0, 1) := by decide +kernel
theorem d_Composer_addBehindPoint_57 : decode b_Composer_addBehindPoint 57 = .ok (.getfield 23, 3) := by decide +kernel
theorem d_Composer_addBehindPoint_60 : decode b_Composer_addBehindPoint 60 = .ok (.iload_n 1, 1) := by decide +kernel
theorem d_Composer_addBehindPoint_61 : decode b_Composer_addBehindPoint 61 = .ok (.iload 4, 2) := by decide +kernel
theorem d_Composer_addBehindPoint_63 : decode b_Composer_addBehindPoint 63 = .ok (.isub, 1) := by decide +kernel
theorem d_Composer_addBehindPoint_64 : decode b_Composer_addBehindPoint 64 = .ok (.invokevirtual 192, 3) := by decide +kernel
theorem d_Composer_addBehindPoint_67 : decode b_Composer_addBehindPoint 67 = .ok (.invokevirtual 51, 3) := by decide +kernel
theorem d_Composer_addBehindPoint_70 : decode b_Composer_addBehindPoint 70 = .ok (.iinc 4 1, 3) := by decide +kernel
theorem d_Composer_addBehindPoint_73 : decode b_Composer_addBehindPoint 73 = .ok (.goto (-27), 3) := by decide +kernel
theorem d_Composer_addBehindPoint_76 : decode b_Composer_addBehindPoint 76 = .ok (.aload_n 0, 1) := by decide +kernel
theorem d_Composer_addBehindPoint_77 : decode b_Composer_addBehindPoint 77 = .ok (.getfield 14, 3) := by decide +kernel
theorem d_Composer_addBehindPoint_80 : decode b_Composer_addBehindPoint 80 = .ok (.bipush 48, 2) := by decide +kernel
theorem d_Composer_addBehindPoint_82 : decode b_Composer_addBehindPoint 82 = .ok (.aload_n 0, 1) := by decide +kernel
theorem d_Composer_addBehindPoint_83 : decode b_Composer_addBehindPoint 83 = .ok (.getfield 34, 3) := by decide +kernel
theorem d_Composer_addBehindPoint_86 : decode b_Composer_addBehindPoint 86 = .ok (.iload_n 3, 1) := by decide +kernel
theorem d_Composer_addBehindPoint_87 : decode b_Composer_addBehindPoint 87 = .ok (.isub, 1) := by decide +kernel
theorem d_Composer_addBehindPoint_88 : decode b_Composer_addBehindPoint 88 = .ok (.invokevirtual 121, 3) := by decide +kernel
theorem d_Composer_addBehindPoint_91 : decode b_Composer_addBehindPoint 91 = .ok (.return_, 1) := by decide +kernel
abbrev b_Composer_addFixed : ByteArray := prog_3_method_9_code
abbrev y_Composer_addFixed : MethodName := ⟨"DirectivePrinter$Composer", "addFixed", "(ZZ)V"⟩
def w_Composer_addFixed : List Cond := .code y_Composer_addFixed b_Composer_addFixed 4 none :: lw_g
theorem d_Composer_addFixed_0 : decode b_Composer_addFixed 0 = .ok (.aload_n 0, 1) := by decide +kernel
theorem d_Composer_addFixed_1 : decode b_Composer_addFixed 1 = .ok (.getfield 23, 3) := by decide +kernel
theorem d_Composer_addFixed_4 : decode b_Composer_addFixed 4 = .ok (.invokevirtual 180, 3) := by decide +kernel
theorem d_Composer_addFixed_7 : decode b_Composer_addFixed 7 = .ok (.iconst 0, 1) := by decide +kernel
theorem d_Composer_addFixed_8 : decode b_Composer_addFixed 8 = .ok (.invokestatic 183, 3) := by decide +kernel
theorem d_Composer_addFixed_11 : decode b_Composer_addFixed 11 = .ok (.istore_n 3, 1) := by decide +kernel
theorem d_Composer_addFixed_12 : decode b_Composer_addFixed 12 = .ok (.iload_n 3, 1) := by decide +kernel
theorem d_Composer_addFixed_13 : decode b_Composer_addFixed 13 = .ok (.ifCond .lt 47, 3) := by decide +kernel
theorem d_Composer_addFixed_16 : decode b_Composer_addFixed 16 = .ok (.aload_n 0, 1) := by decide +kernel
theorem d_Composer_addFixed_17 : decode b_Composer_addFixed 17 = .ok (.getfield 14, 3) := by decide +kernel
theorem d_Composer_addFixed_20 : decode b_Composer_addFixed 20 = .ok (.aload_n 0, 1) := by decide +kernel
theorem d_Composer_addFixed_21 : decode b_Composer_addFixed 21 = .ok (.getfield 23, 3) := by decide +kernel
theorem d_Composer_addFixed_24 : decode b_Composer_addFixed 24 = .ok (.iload_n 3, 1) := by decide +kernel
theorem d_Composer_addFixed_25 : decode b_Composer_addFixed 25 = .ok (.invokevirtual 192, 3) := by decide +kernel
theorem d_Composer_addFixed_28 : decode b_Composer_addFixed 28 = .ok (.invokevirtual 51, 3) := by decide +kernel
theorem d_Composer_addFixed_31 : decode b_Composer_addFixed 31 = .ok (.iload_n 1, 1) := by decide +kernel
theorem d_Composer_addFixed_32 : decode b_Composer_addFixed 32 = .ok (.ifCond .eq 22, 3) := by decide +kernel
theorem d_Composer_addFixed_35 : decode b_Composer_addFixed 35 = .ok (.iload_n 3, 1) := by decide +kernel
theorem d_Composer_addFixed_36 : decode b_Composer_addFixed 36 = .ok (.ifCond .le 18, 3) := by decide +kernel
theorem d_Composer_addFixed_39 : decode b_Composer_addFixed 39 = .ok (.iload_n 3, 1) := by decide +kernel
theorem d_Composer_addFixed_40 : decode b_Composer_addFixed 40 = .ok (.iconst 3, 1) := by decide +kernel
theorem d_Composer_addFixed_41 : decode b_Composer_addFixed 41 = .ok (.irem, 1) := by decide +kernel
theorem d_Composer_addFixed_42 : decode b_Composer_addFixed 42 = .ok (.ifCond .ne 12, 3) := by decide +kernel
theorem d_Composer_addFixed_45 : decode b_Composer_addFixed 45 = .ok (.aload_n 0, 1) := by decide +kernel
theorem d_Composer_addFixed_46 : decode b_Composer_addFixed 46 = .ok (.getfield 14, 3) := by decide +kernel
theorem d_Composer_addFixed_49 : decode b_Composer_addFixed 49 = .ok (.bipush 44, 2) := by decide +kernel
theorem d_Composer_addFixed_51 : decode b_Composer_addFixed 51 = .ok (.invokevirtual 51, 3) := by decide +kernel
theorem d_Composer_addFixed_54 : decode b_Composer_addFixed 54 = .ok (.iinc 3 (-1), 3) := by decide +kernel
theorem d_Composer_addFixed_57 : decode b_Composer_addFixed 57 = .ok (.goto (-45), 3) := by decide +kernel
theorem d_Composer_addFixed_60 : decode b_Composer_addFixed 60 = .ok (.aload_n 0, 1) := by decide +kernel
theorem d_Composer_addFixed_61 : decode b_Composer_addFixed 61 = .ok (.iconst (-1), 1) := by decide +kernel
theorem d_Composer_addFixed_62 : decode b_Composer_addFixed 62 = .ok (.iload_n 2, 1) := by decide +kernel
theorem d_Composer_addFixed_63 : decode b_Composer_addFixed 63 = .ok (.invokevirtual 196, 3) := by decide +kernel
theorem d_Composer_addFixed_66 : decode b_Composer_addFixed 66 = .ok (.return_, 1) := by decide +kernel
abbrev b_Composer_addWithExponent : ByteArray := prog_3_method_10_code
abbrev y_Composer_addWithExponent : MethodName := ⟨"DirectivePrinter$Composer", "addWithExponent", "(Z)V"⟩
def w_Composer_addWithExponent : List Cond := .code y_Composer_addWithExponent b_Composer_addWithExponent 4 none :: lw_g
theorem d_Composer_addWithExponent_0 : decode b_Composer_addWithExponent 0 = .ok (.aload_n 0, 1) := by decide +kernel
theorem d_Composer_addWithExponent_1 : decode b_Composer_addWithExponent 1 = .ok (.getfield 23, 3) := by decide +kernel
theorem d_Composer_addWithExponent_4 : decode b_Composer_addWithExponent 4 = .ok (.invokevirtual 189, 3) := by decide +kernel
theorem d_Composer_addWithExponent_7 : decode b_Composer_addWithExponent 7 = .ok (.istore_n 2, 1) := by decide +kernel
theorem d_Composer_addWithExponent_8 : decode b_Composer_addWithExponent 8 = .ok (.aload_n 0, 1) := by decide +kernel
theorem d_Composer_addWithExponent_9 : decode b_Composer_addWithExponent 9 = .ok (.getfield 14, 3) := by decide +kernel
theorem d_Composer_addWithExponent_12 : decode b_Composer_addWithExponent 12 = .ok (.aload_n 0, 1) := by decide +kernel
theorem d_Composer_addWithExponent_13 : decode b_Composer_addWithExponent 13 = .ok (.getfield 23, 3) := by decide +kernel
theorem d_Composer_addWithExponent_16 : decode b_Composer_addWithExponent 16 = .ok (.iload_n 2, 1) := by decide +kernel
theorem d_Composer_addWithExponent_17 : decode b_Composer_addWithExponent 17 = .ok (.invokevirtual 192, 3) := by decide +kernel
theorem d_Composer_addWithExponent_20 : decode b_Composer_addWithExponent 20 = .ok (.invokevirtual 51, 3) := by decide +kernel
theorem d_Composer_addWithExponent_23 : decode b_Composer_addWithExponent 23 = .ok (.aload_n 0, 1) := by decide +kernel
theorem d_Composer_addWithExponent_24 : decode b_Composer_addWithExponent 24 = .ok (.iload_n 2, 1) := by decide +kernel
theorem d_Composer_addWithExponent_25 : decode b_Composer_addWithExponent 25 = .ok (.iconst 1, 1) := by decide +kernel
theorem d_Composer_addWithExponent_26 : decode b_Composer_addWithExponent 26 = .ok (.isub, 1) := by decide +kernel
theorem d_Composer_addWithExponent_27 : decode b_Composer_addWithExponent 27 = .ok (.iload_n 1, 1) := by decide +kernel
theorem d_Composer_addWithExponent_28 : decode b_Composer_addWithExponent 28 = .ok (.invokevirtual 196, 3) := by decide +kernel
theorem d_Composer_addWithExponent_31 : decode b_Composer_addWithExponent 31 = .ok (.aload_n 0, 1) := by decide +kernel
theorem d_Composer_addWithExponent_32 : decode b_Composer_addWithExponent 32 = .ok (.getfield 14, 3) := by decide +kernel
theorem d_Composer_addWithExponent_35 : decode b_Composer_addWithExponent 35 = .ok (.bipush 101, 2) := by decide +kernel
theorem d_Composer_addWithExponent_37 : decode b_Composer_addWithExponent 37 = .ok (.invokevirtual 51, 3) := by decide +kernel
theorem d_Composer_addWithExponent_40 : decode b_Composer_addWithExponent 40 = .ok (.aload_n 0, 1) := by decide +kernel
theorem d_Composer_addWithExponent_41 : decode b_Composer_addWithExponent 41 = .ok (.getfield 14, 3) := by decide +kernel
theorem d_Composer_addWithExponent_44 : decode b_Composer_addWithExponent 44 = .ok (.iload_n 2, 1) := by decide +kernel
theorem d_Composer_addWithExponent_45 : decode b_Composer_addWithExponent 45 = .ok (.ifCond .ge 8, 3) := by decide +kernel
theorem d_Composer_addWithExponent_48 : decode b_Composer_addWithExponent 48 = .ok (.bipush 45, 2) := by decide +kernel
theorem d_Composer_addWithExponent_50 : decode b_Composer_addWithExponent 50 = .ok (.goto 5, 3) := by decide +kernel
theorem d_Composer_addWithExponent_53 : decode b_Composer_addWithExponent 53 = .ok (.bipush 43, 2) := by decide +kernel
theorem d_Composer_addWithExponent_55 : decode b_Composer_addWithExponent 55 = .ok (.invokevirtual 51, 3) := by decide +kernel
theorem d_Composer_addWithExponent_58 : decode b_Composer_addWithExponent 58 = .ok (.iload_n 2, 1) := by decide +kernel
theorem d_Composer_addWithExponent_59 : decode b_Composer_addWithExponent 59 = .ok (.invokestatic 200, 3) := by decide +kernel
theorem d_Composer_addWithExponent_62 : decode b_Composer_addWithExponent 62 = .ok (.istore_n 3, 1) := by decide +kernel
theorem d_Composer_addWithExponent_63 : decode b_Composer_addWithExponent 63 = .ok (.aload_n 0, 1) := by decide +kernel
theorem d_Composer_addWithExponent_64 : decode b_Composer_addWithExponent 64 = .ok (.getfield 14, 3) := by decide +kernel
theorem d_Composer_addWithExponent_67 : decode b_Composer_addWithExponent 67 = .ok (.bipush 48, 2) := by decide +kernel
theorem d_Composer_addWithExponent_69 : decode b_Composer_addWithExponent 69 = .ok (.iload_n 3, 1) := by decide +kernel
theorem d_Composer_addWithExponent_70 : decode b_Composer_addWithExponent 70 = .ok (.bipush 10, 2) := by decide +kernel
theorem d_Composer_addWithExponent_72 : decode b_Composer_addWithExponent 72 = .ok (.idiv, 1) := by decide +kernel
theorem d_Composer_addWithExponent_73 : decode b_Composer_addWithExponent 73 = .ok (.bipush 10, 2) := by decide +kernel
theorem d_Composer_addWithExponent_75 : decode b_Composer_addWithExponent 75 = .ok (.irem, 1) := by decide +kernel
theorem d_Composer_addWithExponent_76 : decode b_Composer_addWithExponent 76 = .ok (.iadd, 1) := by decide +kernel
theorem d_Composer_addWithExponent_77 : decode b_Composer_addWithExponent 77 = .ok (.i2c, 1) := by decide +kernel
theorem d_Composer_addWithExponent_78 : decode b_Composer_addWithExponent 78 = .ok (.invokevirtual 51, 3) := by decide +kernel
theorem d_Composer_addWithExponent_81 : decode b_Composer_addWithExponent 81 = .ok (.aload_n 0, 1) := by decide +kernel
theorem d_Composer_addWithExponent_82 : decode b_Composer_addWithExponent 82 = .ok (.getfield 14, 3) := by decide +kernel
theorem d_Composer_addWithExponent_85 : decode b_Composer_addWithExponent 85 = .ok (.bipush 48, 2) := by decide +kernel
theorem d_Composer_addWithExponent_87 : decode b_Composer_addWithExponent 87 = .ok (.iload_n 3, 1) := by decide +kernel
theorem d_Composer_addWithExponent_88 : decode b_Composer_addWithExponent 88 = .ok (.bipush 10, 2) := by decide +kernel
theorem d_Composer_addWithExponent_90 : decode b_Composer_addWithExponent 90 = .ok (.irem, 1) := by decide +kernel
theorem d_Composer_addWithExponent_91 : decode b_Composer_addWithExponent 91 = .ok (.iadd, 1) := by decide +kernel
theorem d_Composer_addWithExponent_92 : decode b_Composer_addWithExponent 92 = .ok (.i2c, 1) := by decide +kernel
theorem d_Composer_addWithExponent_93 : decode b_Composer_addWithExponent 93 = .ok (.invokevirtual 51, 3) := by decide +kernel
theorem d_Composer_addWithExponent_96 : decode b_Composer_addWithExponent 96 = .ok (.return_, 1) := by decide +kernel
abbrev b_Composer_roundFor : ByteArray := prog_3_method_8_code
abbrev y_Composer_roundFor : MethodName := ⟨"DirectivePrinter$Composer", "roundFor", "(LDirectivePrinter$Directive;)V"⟩
def w_Composer_roundFor : List Cond := .code y_Composer_roundFor b_Composer_roundFor 5 none :: lw_g
theorem d_Composer_roundFor_0 : decode b_Composer_roundFor 0 = .ok (.aload_n 1, 1) := by decide +kernel
theorem d_Composer_roundFor_1 : decode b_Composer_roundFor 1 = .ok (.bipush 6, 2) := by decide +kernel
theorem d_Composer_roundFor_3 : decode b_Composer_roundFor 3 = .ok (.invokevirtual 173, 3) := by decide +kernel
theorem d_Composer_roundFor_6 : decode b_Composer_roundFor 6 = .ok (.istore_n 2, 1) := by decide +kernel
theorem d_Composer_roundFor_7 : decode b_Composer_roundFor 7 = .ok (.aload_n 0, 1) := by decide +kernel
theorem d_Composer_roundFor_8 : decode b_Composer_roundFor 8 = .ok (.iconst 0, 1) := by decide +kernel
theorem d_Composer_roundFor_9 : decode b_Composer_roundFor 9 = .ok (.putfield 37, 3) := by decide +kernel
theorem d_Composer_roundFor_12 : decode b_Composer_roundFor 12 = .ok (.aload_n 1, 1) := by decide +kernel
theorem d_Composer_roundFor_13 : decode b_Composer_roundFor 13 = .ok (.invokevirtual 45, 3) := by decide +kernel
theorem d_Composer_roundFor_16 : decode b_Composer_roundFor 16 = .ok (.tableswitch 82 100 102 #[28, 53, 36], 28) := by decide +kernel
theorem d_Composer_roundFor_44 : decode b_Composer_roundFor 44 = .ok (.aload_n 0, 1) := by decide +kernel
theorem d_Composer_roundFor_45 : decode b_Composer_roundFor 45 = .ok (.iconst 0, 1) := by decide +kernel
theorem d_Composer_roundFor_46 : decode b_Composer_roundFor 46 = .ok (.putfield 34, 3) := by decide +kernel
theorem d_Composer_roundFor_49 : decode b_Composer_roundFor 49 = .ok (.goto 127, 3) := by decide +kernel
theorem d_Composer_roundFor_52 : decode b_Composer_roundFor 52 = .ok (.aload_n 0, 1) := by decide +kernel
theorem d_Composer_roundFor_53 : decode b_Composer_roundFor 53 = .ok (.iload_n 2, 1) := by decide +kernel
theorem d_Composer_roundFor_54 : decode b_Composer_roundFor 54 = .ok (.putfield 34, 3) := by decide +kernel
theorem d_Composer_roundFor_57 : decode b_Composer_roundFor 57 = .ok (.aload_n 0, 1) := by decide +kernel
theorem d_Composer_roundFor_58 : decode b_Composer_roundFor 58 = .ok (.getfield 23, 3) := by decide +kernel
theorem d_Composer_roundFor_61 : decode b_Composer_roundFor 61 = .ok (.iload_n 2, 1) := by decide +kernel
theorem d_Composer_roundFor_62 : decode b_Composer_roundFor 62 = .ok (.ineg, 1) := by decide +kernel
theorem d_Composer_roundFor_63 : decode b_Composer_roundFor 63 = .ok (.invokevirtual 177, 3) := by decide +kernel
theorem d_Composer_roundFor_66 : decode b_Composer_roundFor 66 = .ok (.goto 110, 3) := by decide +kernel
theorem d_Composer_roundFor_69 : decode b_Composer_roundFor 69 = .ok (.aload_n 0, 1) := by decide +kernel
theorem d_Composer_roundFor_70 : decode b_Composer_roundFor 70 = .ok (.iload_n 2, 1) := by decide +kernel
theorem d_Composer_roundFor_71 : decode b_Composer_roundFor 71 = .ok (.putfield 34, 3) := by decide +kernel
theorem d_Composer_roundFor_74 : decode b_Composer_roundFor 74 = .ok (.aload_n 0, 1) := by decide +kernel
theorem d_Composer_roundFor_75 : decode b_Composer_roundFor 75 = .ok (.iconst 1, 1) := by decide +kernel
theorem d_Composer_roundFor_76 : decode b_Composer_roundFor 76 = .ok (.putfield 37, 3) := by decide +kernel
theorem d_Composer_roundFor_79 : decode b_Composer_roundFor 79 = .ok (.aload_n 0, 1) := by decide +kernel
theorem d_Composer_roundFor_80 : decode b_Composer_roundFor 80 = .ok (.getfield 23, 3) := by decide +kernel
theorem d_Composer_roundFor_83 : decode b_Composer_roundFor 83 = .ok (.aload_n 0, 1) := by decide +kernel
theorem d_Composer_roundFor_84 : decode b_Composer_roundFor 84 = .ok (.getfield 23, 3) := by decide +kernel
theorem d_Composer_roundFor_87 : decode b_Composer_roundFor 87 = .ok (.invokevirtual 180, 3) := by decide +kernel
theorem d_Composer_roundFor_90 : decode b_Composer_roundFor 90 = .ok (.iload_n 2, 1) := by decide +kernel
theorem d_Composer_roundFor_91 : decode b_Composer_roundFor 91 = .ok (.isub, 1) := by decide +kernel
theorem d_Composer_roundFor_92 : decode b_Composer_roundFor 92 = .ok (.invokevirtual 177, 3) := by decide +kernel
theorem d_Composer_roundFor_95 : decode b_Composer_roundFor 95 = .ok (.goto 81, 3) := by decide +kernel
theorem d_Composer_roundFor_98 : decode b_Composer_roundFor 98 = .ok (.iload_n 2, 1) := by decide +kernel
theorem d_Composer_roundFor_99 : decode b_Composer_roundFor 99 = .ok (.iconst 1, 1) := by decide +kernel
theorem d_Composer_roundFor_100 : decode b_Composer_roundFor 100 = .ok (.invokestatic 183, 3) := by decide +kernel
theorem d_Composer_roundFor_103 : decode b_Composer_roundFor 103 = .ok (.istore_n 3, 1) := by decide +kernel
theorem d_Composer_roundFor_104 : decode b_Composer_roundFor 104 = .ok (.aload_n 0, 1) := by decide +kernel
theorem d_Composer_roundFor_105 : decode b_Composer_roundFor 105 = .ok (.getfield 23, 3) := by decide +kernel
theorem d_Composer_roundFor_108 : decode b_Composer_roundFor 108 = .ok (.aload_n 0, 1) := by decide +kernel
theorem d_Composer_roundFor_109 : decode b_Composer_roundFor 109 = .ok (.getfield 23, 3) := by decide +kernel
theorem d_Composer_roundFor_112 : decode b_Composer_roundFor 112 = .ok (.invokevirtual 180, 3) := by decide +kernel
theorem d_Composer_roundFor_115 : decode b_Composer_roundFor 115 = .ok (.iload_n 3, 1) := by decide +kernel
theorem d_Composer_roundFor_116 : decode b_Composer_roundFor 116 = .ok (.iconst 1, 1) := by decide +kernel
theorem d_Composer_roundFor_117 : decode b_Composer_roundFor 117 = .ok (.isub, 1) := by decide +kernel
theorem d_Composer_roundFor_118 : decode b_Composer_roundFor 118 = .ok (.isub, 1) := by decide +kernel
theorem d_Composer_roundFor_119 : decode b_Composer_roundFor 119 = .ok (.invokevirtual 177, 3) := by decide +kernel
theorem d_Composer_roundFor_122 : decode b_Composer_roundFor 122 = .ok (.aload_n 0, 1) := by decide +kernel
theorem d_Composer_roundFor_123 : decode b_Composer_roundFor 123 = .ok (.getfield 23, 3) := by decide +kernel
theorem d_Composer_roundFor_126 : decode b_Composer_roundFor 126 = .ok (.invokevirtual 189, 3) := by decide +kernel
theorem d_Composer_roundFor_129 : decode b_Composer_roundFor 129 = .ok (.istore 4, 2) := by decide +kernel
theorem d_Composer_roundFor_131 : decode b_Composer_roundFor 131 = .ok (.aload_n 0, 1) := by decide +kernel
theorem d_Composer_roundFor_132 : decode b_Composer_roundFor 132 = .ok (.iload 4, 2) := by decide +kernel
theorem d_Composer_roundFor_134 : decode b_Composer_roundFor 134 = .ok (.bipush (-4), 2) := by decide +kernel
theorem d_Composer_roundFor_136 : decode b_Composer_roundFor 136 = .ok (.if_icmp .lt 9, 3) := by decide +kernel
theorem d_Composer_roundFor_139 : decode b_Composer_roundFor 139 = .ok (.iload 4, 2) := by decide +kernel
theorem d_Composer_roundFor_141 : decode b_Composer_roundFor 141 = .ok (.iload_n 3, 1) := by decide +kernel
theorem d_Composer_roundFor_142 : decode b_Composer_roundFor 142 = .ok (.if_icmp .lt 7, 3) := by decide +kernel
theorem d_Composer_roundFor_145 : decode b_Composer_roundFor 145 = .ok (.iconst 1, 1) := by decide +kernel
theorem d_Composer_roundFor_146 : decode b_Composer_roundFor 146 = .ok (.goto 4, 3) := by decide +kernel
theorem d_Composer_roundFor_149 : decode b_Composer_roundFor 149 = .ok (.iconst 0, 1) := by decide +kernel
theorem d_Composer_roundFor_150 : decode b_Composer_roundFor 150 = .ok (.putfield 37, 3) := by decide +kernel
theorem d_Composer_roundFor_153 : decode b_Composer_roundFor 153 = .ok (.aload_n 0, 1) := by decide +kernel
theorem d_Composer_roundFor_154 : decode b_Composer_roundFor 154 = .ok (.aload_n 0, 1) := by decide +kernel
theorem d_Composer_roundFor_155 : decode b_Composer_roundFor 155 = .ok (.getfield 37, 3) := by decide +kernel
theorem d_Composer_roundFor_158 : decode b_Composer_roundFor 158 = .ok (.ifCond .eq 9, 3) := by decide +kernel
theorem d_Composer_roundFor_161 : decode b_Composer_roundFor 161 = .ok (.iload_n 3, 1) := by decide +kernel
theorem d_Composer_roundFor_162 : decode b_Composer_roundFor 162 = .ok (.iconst 1, 1) := by decide +kernel
theorem d_Composer_roundFor_163 : decode b_Composer_roundFor 163 = .ok (.isub, 1) := by decide +kernel
theorem d_Composer_roundFor_164 : decode b_Composer_roundFor 164 = .ok (.goto 9, 3) := by decide +kernel
theorem d_Composer_roundFor_167 : decode b_Composer_roundFor 167 = .ok (.iload_n 3, 1) := by decide +kernel
theorem d_Composer_roundFor_168 : decode b_Composer_roundFor 168 = .ok (.iconst 1, 1) := by decide +kernel
theorem d_Composer_roundFor_169 : decode b_Composer_roundFor 169 = .ok (.isub, 1) := by decide +kernel
theorem d_Composer_roundFor_170 : decode b_Composer_roundFor 170 = .ok (.iload 4, 2) := by decide +kernel
theorem d_Composer_roundFor_172 : decode b_Composer_roundFor 172 = .ok (.isub, 1) := by decide +kernel
theorem d_Composer_roundFor_173 : decode b_Composer_roundFor 173 = .ok (.putfield 34, 3) := by decide +kernel
theorem d_Composer_roundFor_176 : decode b_Composer_roundFor 176 = .ok (.return_, 1) := by decide +kernel
set_option maxRecDepth 100000 in
theorem q_187 : (.fieldLink "DirectivePrinter$Composer" 14 "DirectivePrinter$Composer" "paper" "LDirectivePrinter$Row;" : Cond) ∈ lw_g := List.mem_filter.mpr ⟨List.mem_of_getElem? (i := 187) (by decide +kernel), by decide +kernel⟩
set_option maxRecDepth 100000 in
theorem q_190 : (.fieldLink "DirectivePrinter$Composer" 27 "DirectivePrinter$Composer" "start" "I" : Cond) ∈ lw_g := List.mem_filter.mpr ⟨List.mem_of_getElem? (i := 190) (by decide +kernel), by decide +kernel⟩
set_option maxRecDepth 100000 in
theorem q_499 : (.methodLink "DirectivePrinter$Composer" 111 ⟨"DirectivePrinter$Row", "cutTo", "(I)V"⟩ : Cond) ∈ lw_g := List.mem_filter.mpr ⟨List.mem_of_getElem? (i := 499) (by decide +kernel), by decide +kernel⟩
set_option maxRecDepth 100000 in
theorem q_247 : (.instanceMethod ⟨"DirectivePrinter$Row", "cutTo", "(I)V"⟩ : Cond) ∈ lw_g := List.mem_filter.mpr ⟨List.mem_of_getElem? (i := 247) (by decide +kernel), by decide +kernel⟩
set_option maxRecDepth 100000 in
theorem q_248 : (.selects "DirectivePrinter$Row" ⟨"DirectivePrinter$Row", "cutTo", "(I)V"⟩ ⟨"DirectivePrinter$Row", "cutTo", "(I)V"⟩ : Cond) ∈ lw_g := List.mem_filter.mpr ⟨List.mem_of_getElem? (i := 248) (by decide +kernel), by decide +kernel⟩
set_option maxRecDepth 100000 in
theorem q_249 : (.code ⟨"DirectivePrinter$Row", "cutTo", "(I)V"⟩ prog_7_method_9_code 2 (Option.none : Option FieldType) : Cond) ∈ lw_g := List.mem_filter.mpr ⟨List.mem_of_getElem? (i := 249) (rfl), by decide +kernel⟩
set_option maxRecDepth 100000 in
theorem q_456 : (.methodLink "DirectivePrinter$Composer" 41 ⟨"DirectivePrinter$Row", "size", "()I"⟩ : Cond) ∈ lw_g := List.mem_filter.mpr ⟨List.mem_of_getElem? (i := 456) (by decide +kernel), by decide +kernel⟩
set_option maxRecDepth 100000 in
theorem q_561 : (.methodLink "DirectivePrinter$Composer" 117 ⟨"DirectivePrinter$Directive", "has", "(I)Z"⟩ : Cond) ∈ lw_g := List.mem_filter.mpr ⟨List.mem_of_getElem? (i := 561) (by decide +kernel), by decide +kernel⟩
set_option maxRecDepth 100000 in
theorem q_610 : (.methodLink "DirectivePrinter$Composer" 125 ⟨"DirectivePrinter$Row", "insert", "(ICI)V"⟩ : Cond) ∈ lw_g := List.mem_filter.mpr ⟨List.mem_of_getElem? (i := 610) (by decide +kernel), by decide +kernel⟩
set_option maxRecDepth 100000 in
theorem q_611 : (.instanceMethod ⟨"DirectivePrinter$Row", "insert", "(ICI)V"⟩ : Cond) ∈ lw_g := List.mem_filter.mpr ⟨List.mem_of_getElem? (i := 611) (by decide +kernel), by decide +kernel⟩
set_option maxRecDepth 100000 in
theorem q_612 : (.selects "DirectivePrinter$Row" ⟨"DirectivePrinter$Row", "insert", "(ICI)V"⟩ ⟨"DirectivePrinter$Row", "insert", "(ICI)V"⟩ : Cond) ∈ lw_g := List.mem_filter.mpr ⟨List.mem_of_getElem? (i := 612) (by decide +kernel), by decide +kernel⟩
set_option maxRecDepth 100000 in
theorem q_613 : (.code ⟨"DirectivePrinter$Row", "insert", "(ICI)V"⟩ prog_7_method_8_code 7 (Option.none : Option FieldType) : Cond) ∈ lw_g := List.mem_filter.mpr ⟨List.mem_of_getElem? (i := 613) (rfl), by decide +kernel⟩
set_option maxRecDepth 100000 in
theorem q_191 : (.fieldLink "DirectivePrinter$Composer" 31 "DirectivePrinter$Composer" "zerosAt" "I" : Cond) ∈ lw_g := List.mem_filter.mpr ⟨List.mem_of_getElem? (i := 191) (by decide +kernel), by decide +kernel⟩
set_option maxRecDepth 100000 in
theorem q_553 : (.methodLink "DirectivePrinter$Composer" 121 ⟨"DirectivePrinter$Row", "addMany", "(CI)V"⟩ : Cond) ∈ lw_g := List.mem_filter.mpr ⟨List.mem_of_getElem? (i := 553) (by decide +kernel), by decide +kernel⟩
set_option maxRecDepth 100000 in
theorem q_554 : (.instanceMethod ⟨"DirectivePrinter$Row", "addMany", "(CI)V"⟩ : Cond) ∈ lw_g := List.mem_filter.mpr ⟨List.mem_of_getElem? (i := 554) (by decide +kernel), by decide +kernel⟩
set_option maxRecDepth 100000 in
theorem q_555 : (.selects "DirectivePrinter$Row" ⟨"DirectivePrinter$Row", "addMany", "(CI)V"⟩ ⟨"DirectivePrinter$Row", "addMany", "(CI)V"⟩ : Cond) ∈ lw_g := List.mem_filter.mpr ⟨List.mem_of_getElem? (i := 555) (by decide +kernel), by decide +kernel⟩
set_option maxRecDepth 100000 in
theorem q_556 : (.code ⟨"DirectivePrinter$Row", "addMany", "(CI)V"⟩ prog_7_method_7_code 5 (Option.none : Option FieldType) : Cond) ∈ lw_g := List.mem_filter.mpr ⟨List.mem_of_getElem? (i := 556) (rfl), by decide +kernel⟩
set_option maxRecDepth 100000 in
theorem q_192 : (.fieldLink "DirectivePrinter$Composer" 34 "DirectivePrinter$Composer" "behind" "I" : Cond) ∈ lw_g := List.mem_filter.mpr ⟨List.mem_of_getElem? (i := 192) (by decide +kernel), by decide +kernel⟩
set_option maxRecDepth 100000 in
theorem q_458 : (.methodLink "DirectivePrinter$Composer" 51 ⟨"DirectivePrinter$Row", "add", "(C)V"⟩ : Cond) ∈ lw_g := List.mem_filter.mpr ⟨List.mem_of_getElem? (i := 458) (by decide +kernel), by decide +kernel⟩
set_option maxRecDepth 100000 in
theorem q_189 : (.fieldLink "DirectivePrinter$Composer" 23 "DirectivePrinter$Composer" "figures" "LDirectivePrinter$Figures;" : Cond) ∈ lw_g := List.mem_filter.mpr ⟨List.mem_of_getElem? (i := 189) (by decide +kernel), by decide +kernel⟩
set_option maxRecDepth 100000 in
theorem q_548 : (.methodLink "DirectivePrinter$Composer" 203 ⟨"DirectivePrinter$Figures", "lowestPower", "()I"⟩ : Cond) ∈ lw_g := List.mem_filter.mpr ⟨List.mem_of_getElem? (i := 548) (by decide +kernel), by decide +kernel⟩
set_option maxRecDepth 100000 in
theorem q_549 : (.instanceMethod ⟨"DirectivePrinter$Figures", "lowestPower", "()I"⟩ : Cond) ∈ lw_g := List.mem_filter.mpr ⟨List.mem_of_getElem? (i := 549) (by decide +kernel), by decide +kernel⟩
set_option maxRecDepth 100000 in
theorem q_550 : (.selects "DirectivePrinter$Figures" ⟨"DirectivePrinter$Figures", "lowestPower", "()I"⟩ ⟨"DirectivePrinter$Figures", "lowestPower", "()I"⟩ : Cond) ∈ lw_g := List.mem_filter.mpr ⟨List.mem_of_getElem? (i := 550) (by decide +kernel), by decide +kernel⟩
set_option maxRecDepth 100000 in
theorem q_551 : (.code ⟨"DirectivePrinter$Figures", "lowestPower", "()I"⟩ prog_5_method_8_code 1 (Option.some FieldType.int) : Cond) ∈ lw_g := List.mem_filter.mpr ⟨List.mem_of_getElem? (i := 551) (rfl), by decide +kernel⟩
set_option maxRecDepth 100000 in
theorem q_536 : (.methodLink "DirectivePrinter$Composer" 183 ⟨"java/lang/Math", "max", "(II)I"⟩ : Cond) ∈ lw_g := List.mem_filter.mpr ⟨List.mem_of_getElem? (i := 536) (by decide +kernel), by decide +kernel⟩
set_option maxRecDepth 100000 in
theorem q_552 : (.methodLink "DirectivePrinter$Composer" 206 ⟨"java/lang/Math", "min", "(II)I"⟩ : Cond) ∈ lw_g := List.mem_filter.mpr ⟨List.mem_of_getElem? (i := 552) (by decide +kernel), by decide +kernel⟩
set_option maxRecDepth 100000 in
theorem q_537 : (.methodLink "DirectivePrinter$Composer" 192 ⟨"DirectivePrinter$Figures", "sign", "(I)C"⟩ : Cond) ∈ lw_g := List.mem_filter.mpr ⟨List.mem_of_getElem? (i := 537) (by decide +kernel), by decide +kernel⟩
set_option maxRecDepth 100000 in
theorem q_538 : (.instanceMethod ⟨"DirectivePrinter$Figures", "sign", "(I)C"⟩ : Cond) ∈ lw_g := List.mem_filter.mpr ⟨List.mem_of_getElem? (i := 538) (by decide +kernel), by decide +kernel⟩
set_option maxRecDepth 100000 in
theorem q_539 : (.selects "DirectivePrinter$Figures" ⟨"DirectivePrinter$Figures", "sign", "(I)C"⟩ ⟨"DirectivePrinter$Figures", "sign", "(I)C"⟩ : Cond) ∈ lw_g := List.mem_filter.mpr ⟨List.mem_of_getElem? (i := 539) (by decide +kernel), by decide +kernel⟩
set_option maxRecDepth 100000 in
theorem q_540 : (.code ⟨"DirectivePrinter$Figures", "sign", "(I)C"⟩ prog_5_method_9_code 4 (Option.some FieldType.char) : Cond) ∈ lw_g := List.mem_filter.mpr ⟨List.mem_of_getElem? (i := 540) (rfl), by decide +kernel⟩
set_option maxRecDepth 100000 in
theorem q_532 : (.methodLink "DirectivePrinter$Composer" 180 ⟨"DirectivePrinter$Figures", "top", "()I"⟩ : Cond) ∈ lw_g := List.mem_filter.mpr ⟨List.mem_of_getElem? (i := 532) (by decide +kernel), by decide +kernel⟩
set_option maxRecDepth 100000 in
theorem q_544 : (.methodLink "DirectivePrinter$Composer" 196 ⟨"DirectivePrinter$Composer", "addBehindPoint", "(IZ)V"⟩ : Cond) ∈ lw_g := List.mem_filter.mpr ⟨List.mem_of_getElem? (i := 544) (by decide +kernel), by decide +kernel⟩
set_option maxRecDepth 100000 in
theorem q_546 : (.instanceMethod ⟨"DirectivePrinter$Composer", "addBehindPoint", "(IZ)V"⟩ : Cond) ∈ lw_g := List.mem_filter.mpr ⟨List.mem_of_getElem? (i := 546) (by decide +kernel), by decide +kernel⟩
set_option maxRecDepth 100000 in
theorem q_16 : (.selects "DirectivePrinter$Composer" ⟨"DirectivePrinter$Composer", "addBehindPoint", "(IZ)V"⟩ ⟨"DirectivePrinter$Composer", "addBehindPoint", "(IZ)V"⟩ : Cond) ∈ lw_g := List.mem_filter.mpr ⟨List.mem_of_getElem? (i := 16) (by decide +kernel), by decide +kernel⟩
set_option maxRecDepth 100000 in
theorem q_61 : (.initialized "DirectivePrinter$Composer" : Cond) ∈ lw_g := List.mem_filter.mpr ⟨List.mem_of_getElem? (i := 61) (by decide +kernel), by decide +kernel⟩
set_option maxRecDepth 100000 in
theorem q_547 : (.code ⟨"DirectivePrinter$Composer", "addBehindPoint", "(IZ)V"⟩ prog_3_method_11_code 5 (Option.none : Option FieldType) : Cond) ∈ lw_g := List.mem_filter.mpr ⟨List.mem_of_getElem? (i := 547) (rfl), by decide +kernel⟩
set_option maxRecDepth 100000 in
theorem q_590 : (.methodLink "DirectivePrinter$Composer" 189 ⟨"DirectivePrinter$Figures", "exponent", "()I"⟩ : Cond) ∈ lw_g := List.mem_filter.mpr ⟨List.mem_of_getElem? (i := 590) (by decide +kernel), by decide +kernel⟩
set_option maxRecDepth 100000 in
theorem q_591 : (.instanceMethod ⟨"DirectivePrinter$Figures", "exponent", "()I"⟩ : Cond) ∈ lw_g := List.mem_filter.mpr ⟨List.mem_of_getElem? (i := 591) (by decide +kernel), by decide +kernel⟩
set_option maxRecDepth 100000 in
theorem q_592 : (.selects "DirectivePrinter$Figures" ⟨"DirectivePrinter$Figures", "exponent", "()I"⟩ ⟨"DirectivePrinter$Figures", "exponent", "()I"⟩ : Cond) ∈ lw_g := List.mem_filter.mpr ⟨List.mem_of_getElem? (i := 592) (by decide +kernel), by decide +kernel⟩
set_option maxRecDepth 100000 in
theorem q_593 : (.code ⟨"DirectivePrinter$Figures", "exponent", "()I"⟩ prog_5_method_7_code 1 (Option.some FieldType.int) : Cond) ∈ lw_g := List.mem_filter.mpr ⟨List.mem_of_getElem? (i := 593) (rfl), by decide +kernel⟩
set_option maxRecDepth 100000 in
theorem q_603 : (.methodLink "DirectivePrinter$Composer" 200 ⟨"java/lang/Math", "abs", "(I)I"⟩ : Cond) ∈ lw_g := List.mem_filter.mpr ⟨List.mem_of_getElem? (i := 603) (by decide +kernel), by decide +kernel⟩
set_option maxRecDepth 100000 in
theorem q_604 : (.static ⟨"java/lang/Math", "abs", "(I)I"⟩ : Cond) ∈ lw_g := List.mem_filter.mpr ⟨List.mem_of_getElem? (i := 604) (by decide +kernel), by decide +kernel⟩
set_option maxRecDepth 100000 in
theorem q_605 : (.code ⟨"java/lang/Math", "abs", "(I)I"⟩ prog_15_method_59_code 1 (Option.some FieldType.int) : Cond) ∈ lw_g := List.mem_filter.mpr ⟨List.mem_of_getElem? (i := 605) (rfl), by decide +kernel⟩
set_option maxRecDepth 100000 in
theorem q_576 : (.methodLink "DirectivePrinter$Composer" 173 ⟨"DirectivePrinter$Directive", "precisionOr", "(I)I"⟩ : Cond) ∈ lw_g := List.mem_filter.mpr ⟨List.mem_of_getElem? (i := 576) (by decide +kernel), by decide +kernel⟩
set_option maxRecDepth 100000 in
theorem q_577 : (.instanceMethod ⟨"DirectivePrinter$Directive", "precisionOr", "(I)I"⟩ : Cond) ∈ lw_g := List.mem_filter.mpr ⟨List.mem_of_getElem? (i := 577) (by decide +kernel), by decide +kernel⟩
set_option maxRecDepth 100000 in
theorem q_578 : (.selects "DirectivePrinter$Directive" ⟨"DirectivePrinter$Directive", "precisionOr", "(I)I"⟩ ⟨"DirectivePrinter$Directive", "precisionOr", "(I)I"⟩ : Cond) ∈ lw_g := List.mem_filter.mpr ⟨List.mem_of_getElem? (i := 578) (by decide +kernel), by decide +kernel⟩
set_option maxRecDepth 100000 in
theorem q_579 : (.code ⟨"DirectivePrinter$Directive", "precisionOr", "(I)I"⟩ prog_4_method_8_code 2 (Option.some FieldType.int) : Cond) ∈ lw_g := List.mem_filter.mpr ⟨List.mem_of_getElem? (i := 579) (rfl), by decide +kernel⟩
set_option maxRecDepth 100000 in
theorem q_193 : (.fieldLink "DirectivePrinter$Composer" 37 "DirectivePrinter$Composer" "withExponent" "Z" : Cond) ∈ lw_g := List.mem_filter.mpr ⟨List.mem_of_getElem? (i := 193) (by decide +kernel), by decide +kernel⟩
set_option maxRecDepth 100000 in
theorem q_457 : (.methodLink "DirectivePrinter$Composer" 45 ⟨"DirectivePrinter$Directive", "smallConversion", "()C"⟩ : Cond) ∈ lw_g := List.mem_filter.mpr ⟨List.mem_of_getElem? (i := 457) (by decide +kernel), by decide +kernel⟩
set_option maxRecDepth 100000 in
theorem q_580 : (.methodLink "DirectivePrinter$Composer" 177 ⟨"DirectivePrinter$Figures", "roundTo", "(I)V"⟩ : Cond) ∈ lw_g := List.mem_filter.mpr ⟨List.mem_of_getElem? (i := 580) (by decide +kernel), by decide +kernel⟩
set_option maxRecDepth 100000 in
theorem q_581 : (.instanceMethod ⟨"DirectivePrinter$Figures", "roundTo", "(I)V"⟩ : Cond) ∈ lw_g := List.mem_filter.mpr ⟨List.mem_of_getElem? (i := 581) (by decide +kernel), by decide +kernel⟩
set_option maxRecDepth 100000 in
theorem q_582 : (.selects "DirectivePrinter$Figures" ⟨"DirectivePrinter$Figures", "roundTo", "(I)V"⟩ ⟨"DirectivePrinter$Figures", "roundTo", "(I)V"⟩ : Cond) ∈ lw_g := List.mem_filter.mpr ⟨List.mem_of_getElem? (i := 582) (by decide +kernel), by decide +kernel⟩
set_option maxRecDepth 100000 in
theorem q_583 : (.code ⟨"DirectivePrinter$Figures", "roundTo", "(I)V"⟩ prog_5_method_10_code 6 (Option.none : Option FieldType) : Cond) ∈ lw_g := List.mem_filter.mpr ⟨List.mem_of_getElem? (i := 583) (rfl), by decide +kernel⟩
/-! DirectivePrinter$Composer.shorten(LDirectivePrinter$Directive;)V -/
def f_Composer_shorten (c_paper_length : Int32) (c_start : Int32) (d_precision : Int32) : Option (Int32) := (if d_precision = (-1 : Int32) then some (c_paper_length) else mm_b1 (f_Row_cutTo c_paper_length (c_start + d_precision)) (fun o_1 => some (o_1)))
abbrev r_Composer_shorten : Room := { frames := 1, cells := 0, slots := 0, locals := 21 }
set_option maxHeartbeats 4000000 in
set_option maxRecDepth 100000 in
theorem c_Composer_shorten (l : Launch) {Z : (Nat → Prop) → State → Heap → Prop} {ad adK adV : Nat → Nat} (Zo : mm_Zx Z ad adK adV) (dC : Nat → ClassId) (dI : Nat → Nat → Nat) (cC cI cJ cQ : ClassId) (c_paper_kept_n : Nat) (c_paper_kept : Nat → Int32) (c_paper_length : Int32) (c_figures_digits_n : Nat) (c_figures_digits : Nat → Int32) (c_figures_count : Int32) (c_figures_scale : Int32) (c_start : Int32) (c_zerosAt : Int32) (c_behind : Int32) (c_withExponent : Int32) (d_index : Int32) (d_flags : Int32) (d_flagTwice : Int32) (d_width : Int32) (d_precision : Int32) (d_conversion : Int32) (d_next : Int32) (h_c h_c_paper h_c_paper_kept h_c_figures h_c_figures_digits h_d : Nat) (sz : Nat) (out : Int32) (hf : f_Composer_shorten c_paper_length c_start d_precision = some out) : Met l y_Composer_shorten w_Composer_shorten r_Composer_shorten (mm_pre (dC, dI) vwC (tyl cC cI cJ cQ) Z [(h_c, .inr (4, [.ref h_c_paper, .ref h_c_figures, .int c_start, .int c_zerosAt, .int c_behind, .int c_withExponent])), (h_c_paper, .inr (0, [.ref h_c_paper_kept, .int c_paper_length])), (h_c_paper_kept, .inl (cC, c_paper_kept_n, .inl c_paper_kept)), (h_c_figures, .inr (1, [.ref h_c_figures_digits, .int c_figures_count, .int c_figures_scale])), (h_c_figures_digits, .inl (cI, c_figures_digits_n, .inl c_figures_digits)), (h_d, .inr (2, [.int d_index, .int d_flags, .int d_flagTwice, .int d_width, .int d_precision, .int d_conversion, .int d_next]))] sz [.ref h_c, .ref h_d]) (mm_qv (dC, dI) vwC (tyl cC cI cJ cQ) (va_A [(h_c, .inr (4, [.ref h_c_paper, .ref h_c_figures, .int c_start, .int c_zerosAt, .int c_behind, .int c_withExponent])), (h_c_paper, .inr (0, [.ref h_c_paper_kept, .int c_paper_length])), (h_c_paper_kept, .inl (cC, c_paper_kept_n, .inl c_paper_kept)), (h_c_figures, .inr (1, [.ref h_c_figures_digits, .int c_figures_count, .int c_figures_scale])), (h_c_figures_digits, .inl (cI, c_figures_digits_n, .inl c_figures_digits)), (h_d, .inr (2, [.int d_index, .int d_flags, .int d_flagTwice, .int d_width, .int d_precision, .int d_conversion, .int d_next]))] sz) [(h_c, .inr (4, [.ref h_c_paper, .ref h_c_figures, .int c_start, .int c_zerosAt, .int c_behind, .int c_withExponent])), (h_c_paper, .inr (0, [.ref h_c_paper_kept, .int out])), (h_c_paper_kept, .inl (cC, c_paper_kept_n, .inl c_paper_kept)), (h_c_figures, .inr (1, [.ref h_c_figures_digits, .int c_figures_count, .int c_figures_scale])), (h_c_figures_digits, .inl (cI, c_figures_digits_n, .inl c_figures_digits)), (h_d, .inr (2, [.int d_index, .int d_flags, .int d_flagTwice, .int d_width, .int d_precision, .int d_conversion, .int d_next]))]) 0 0 (va_A [(h_c, .inr (4, [.ref h_c_paper, .ref h_c_figures, .int c_start, .int c_zerosAt, .int c_behind, .int c_withExponent])), (h_c_paper, .inr (0, [.ref h_c_paper_kept, .int c_paper_length])), (h_c_paper_kept, .inl (cC, c_paper_kept_n, .inl c_paper_kept)), (h_c_figures, .inr (1, [.ref h_c_figures_digits, .int c_figures_count, .int c_figures_scale])), (h_c_figures_digits, .inl (cI, c_figures_digits_n, .inl c_figures_digits)), (h_d, .inr (2, [.int d_index, .int d_flags, .int d_flagTwice, .int d_width, .int d_precision, .int d_conversion, .int d_next]))] sz) := by
  refine mm_of (own := "DirectivePrinter$Composer") (cc := b_Composer_shorten) (maxL := 2) (ret := none) (by decide) rfl rfl ?_
  intro p e s m below meth c hsz C0 hw hname
  generalize (va_A [(h_c, .inr (4, [.ref h_c_paper, .ref h_c_figures, .int c_start, .int c_zerosAt, .int c_behind, .int c_withExponent])), (h_c_paper, .inr (0, [.ref h_c_paper_kept, .int c_paper_length])), (h_c_paper_kept, .inl (cC, c_paper_kept_n, .inl c_paper_kept)), (h_c_figures, .inr (1, [.ref h_c_figures_digits, .int c_figures_count, .int c_figures_scale])), (h_c_figures_digits, .inl (cI, c_figures_digits_n, .inl c_figures_digits)), (h_d, .inr (2, [.int d_index, .int d_flags, .int d_flagTwice, .int d_width, .int d_precision, .int d_conversion, .int d_next]))] sz) = A at C0 hw ⊢
  have hl := lv_entry ([.ref h_c, .ref h_d]) (n := 2) (Nat.le_of_ble_eq_true rfl)
  rw [lg_entry_eq]
  generalize (lg_sl ([.ref h_c, .ref h_d]) ++ List.replicate (2 - (lg_sl ([.ref h_c, .ref h_d])).length) Slot.unset).toArray = ls at hl ⊢
  have hl : lv_has ls 2 [(0, .ref h_c), (1, .ref h_d)] := hl
  obtain ⟨hx, hb, hr, hml, hown, hts, hlocks, hK, hZ, hA⟩ := id C0
  generalize s.heap = H at hw ⊢
  unfold f_Composer_shorten at hf
  refine lv_aload_n hx hb d_Composer_shorten_0 rfl (lv_at hl 1 rfl) ?_
  refine va_getN (D := (dC, dI)) (ci := 2) (v := .int d_precision) (C := "DirectivePrinter$Directive") (T := T_Directive) (N := 7) hx hb hts (mm_up i_Directive) hown hK hw.1 5 rfl rfl 4 (by decide) (va_Nw.use rfl ((Zo.2 _ _ _ hZ).1 _ (List.mem_of_getElem? (i := 10) rfl))) (fun _ h9 => h9) rfl d_Composer_shorten_1 ?_
  refine lv_iconst (v := (-1 : Int32)) hx hb d_Composer_shorten_4 (by decide) ?_
  refine lv_icmp_eq (tgt := 24) hx hb d_Composer_shorten_5 (by decide) (fun hc => ?_) (fun hc => ?_)
  · replace hf := mm_ip hc hf
    obtain rfl := Option.some.inj hf
    exact mm_vret hx hb hr hlocks hK (mm_wsub hw [0, 1, 2, 3, 4, 5] (by decide) rfl rfl) d_Composer_shorten_24
  · replace hf := mm_in hc hf
    refine lv_aload_n hx hb d_Composer_shorten_8 rfl (lv_at hl 0 rfl) ?_
    refine va_get (D := (dC, dI)) (ci := 4) (v := .ref h_c_paper) (C := "DirectivePrinter$Composer") (T := T_Composer) (N := 6) hx hb hts (mm_up i_Composer) hown hK hw.1 0 rfl rfl 0 (by decide) (hts _ (List.mem_cons_of_mem _ q_187)) (fun _ h9 => h9) rfl d_Composer_shorten_9 ?_
    refine lv_aload_n hx hb d_Composer_shorten_12 rfl (lv_at hl 0 rfl) ?_
    refine va_get (D := (dC, dI)) (ci := 4) (v := .int c_start) (C := "DirectivePrinter$Composer") (T := T_Composer) (N := 6) hx hb hts (mm_up i_Composer) hown hK hw.1 0 rfl rfl 2 (by decide) (hts _ (List.mem_cons_of_mem _ q_190)) (fun _ h9 => h9) rfl d_Composer_shorten_13 ?_
    refine lv_aload_n hx hb d_Composer_shorten_16 rfl (lv_at hl 1 rfl) ?_
    refine va_getN (D := (dC, dI)) (ci := 2) (v := .int d_precision) (C := "DirectivePrinter$Directive") (T := T_Directive) (N := 7) hx hb hts (mm_up i_Directive) hown hK hw.1 5 rfl rfl 4 (by decide) (va_Nw.use rfl ((Zo.2 _ _ _ hZ).1 _ (List.mem_of_getElem? (i := 10) rfl))) (fun _ h9 => h9) rfl d_Composer_shorten_17 ?_
    refine lv_iadd hx hb d_Composer_shorten_20 ?_
    obtain ⟨o_1, hu, hf⟩ := mm_b1_ok hf
    refine mm_cv (wr := [(h_c, .inr (4, [.ref h_c_paper, .ref h_c_figures, .int c_start, .int c_zerosAt, .int c_behind, .int c_withExponent])), (h_c_figures, .inr (1, [.ref h_c_figures_digits, .int c_figures_count, .int c_figures_scale])), (h_c_figures_digits, .inl (cI, c_figures_digits_n, .inl c_figures_digits)), (h_d, .inr (2, [.int d_index, .int d_flags, .int d_flagTwice, .int d_width, .int d_precision, .int d_conversion, .int d_next]))]) (va_runV (As := [.int (c_start + d_precision)]) (rest := []) ⟨hx, hb, hml, hown, hts⟩ (c_Row_cutTo l Zo dC dI cC cI cJ cQ c_paper_kept_n c_paper_kept c_paper_length (c_start + d_precision) h_c_paper h_c_paper_kept H.size o_1 hu) (cwV 1 hts (mm_gV q_499 q_247 q_248 q_55 q_249) rfl rfl rfl (by decide +kernel) ⟨Nat.le_of_ble_eq_true rfl, Nat.le_of_ble_eq_true rfl⟩) (mm_pv Zo.1 hK hw hZ hA [1, 2] (by decide) rfl rfl (ci := 0) (q0 := 0) rfl rfl) rfl rfl hl.1 rfl (lv_room (Nat.le_of_ble_eq_true rfl)) d_Composer_shorten_21 ⟨Nat.le_refl _, Nat.le_refl _⟩) hw hA [1, 2] [0, 3, 4, 5] rfl rfl (by decide) (by decide) (fun H locs hw => ?_)
    have hw : mm_w (dC, dI) vwC A s [(h_c, .inr (4, [.ref h_c_paper, .ref h_c_figures, .int c_start, .int c_zerosAt, .int c_behind, .int c_withExponent])), (h_c_figures, .inr (1, [.ref h_c_figures_digits, .int c_figures_count, .int c_figures_scale])), (h_c_figures_digits, .inl (cI, c_figures_digits_n, .inl c_figures_digits)), (h_d, .inr (2, [.int d_index, .int d_flags, .int d_flagTwice, .int d_width, .int d_precision, .int d_conversion, .int d_next])), (h_c_paper, .inr (0, [.ref h_c_paper_kept, .int o_1])), (h_c_paper_kept, .inl (cC, c_paper_kept_n, .inl c_paper_kept))] H locs := hw
    obtain rfl := Option.some.inj hf
    exact mm_vret hx hb hr hlocks hK (mm_wsub hw [0, 4, 5, 1, 2, 3] (by decide) rfl rfl) d_Composer_shorten_24
/-! DirectivePrinter$Composer.widen(LDirectivePrinter$Directive;)V -/
def f_Composer_widen_73 (N : Nat) (c_paper_kept_n : Nat) (c_start : Int32) (c_paper_kept : Nat → Int32) (c_paper_length : Int32) (x2 : Int32) : Option ((Nat → Int32) × Int32) := mm_b2 (f_Row_insert N c_paper_kept_n c_paper_kept c_paper_length c_start (32 : Int32) x2) (fun o_4 o_5 => some (o_4, o_5))
def f_Composer_widen (N : Nat) (c_paper_kept_n : Nat) (c_paper_kept : Nat → Int32) (c_paper_length : Int32) (c_start : Int32) (c_zerosAt : Int32) (d_flags : Int32) (d_width : Int32) : Option ((Nat → Int32) × Int32) := mm_b1 (f_Row_size c_paper_length) (fun r_1 => mm_b1 (f_Directive_has d_flags (1 : Int32)) (fun r_2 => (if r_2 = 0 then mm_b1 (f_Directive_has d_flags (8 : Int32)) (fun r_3 => (if r_3 = 0 then f_Composer_widen_73 N c_paper_kept_n c_start c_paper_kept c_paper_length (d_width - (r_1 - c_start)) else (if c_zerosAt = (-1 : Int32) then f_Composer_widen_73 N c_paper_kept_n c_start c_paper_kept c_paper_length (d_width - (r_1 - c_start)) else mm_b2 (f_Row_insert N c_paper_kept_n c_paper_kept c_paper_length c_zerosAt (48 : Int32) (d_width - (r_1 - c_start))) (fun o_6 o_7 => some (o_6, o_7))))) else mm_b2 (f_Row_addMany N c_paper_kept_n c_paper_kept c_paper_length (32 : Int32) (d_width - (r_1 - c_start))) (fun o_8 o_9 => some (o_8, o_9)))))
abbrev r_Composer_widen : Room := { frames := 2, cells := 0, slots := 0, locals := 39 }
set_option maxHeartbeats 4000000 in
set_option maxRecDepth 100000 in
theorem b_Composer_widen_73 {h_c h_c_paper h_c_paper_kept h_c_figures h_c_figures_digits h_d : Nat} (Zo : mm_Zx Z ad adK adV) (C0 : mm_cx (dC, dI) vwC (tyl cC cI cJ cQ) Z p s m args meth c b_Composer_widen 3 none "DirectivePrinter$Composer" w_Composer_widen A) (N : Nat) (c_paper_kept_n : Nat) (c_figures_digits_n : Nat) (c_figures_digits : Nat → Int32) (c_figures_count : Int32) (c_figures_scale : Int32) (c_start : Int32) (c_zerosAt : Int32) (c_behind : Int32) (c_withExponent : Int32) (d_index : Int32) (d_flags : Int32) (d_flagTwice : Int32) (d_width : Int32) (d_precision : Int32) (d_conversion : Int32) (d_next : Int32) (out : (Nat → Int32) × Int32) : ∀ (c_paper_kept : Nat → Int32) (c_paper_length : Int32) (x2 : Int32), f_Composer_widen_73 N c_paper_kept_n c_start c_paper_kept c_paper_length x2 = some out → ∀ (H : Heap) (locs : List Loc), mm_w (dC, dI) vwC A s [(h_c, .inr (4, [.ref h_c_paper, .ref h_c_figures, .int c_start, .int c_zerosAt, .int c_behind, .int c_withExponent])), (h_c_paper, .inr (0, [.ref h_c_paper_kept, .int c_paper_length])), (h_c_paper_kept, .inl (cC, c_paper_kept_n, .inl c_paper_kept)), (h_c_figures, .inr (1, [.ref h_c_figures_digits, .int c_figures_count, .int c_figures_scale])), (h_c_figures_digits, .inl (cI, c_figures_digits_n, .inl c_figures_digits)), (h_d, .inr (2, [.int d_index, .int d_flags, .int d_flagTwice, .int d_width, .int d_precision, .int d_conversion, .int d_next]))] H locs → ∀ (ls : Array Slot), lv_has ls 3 [(0, .ref h_c), (2, .int x2)] → W p l e r_Composer_widen s m args below meth c H locs 0 0 (MQ below (mm_qv (dC, dI) vwC (tyl cC cI cJ cQ) A [(h_c, .inr (4, [.ref h_c_paper, .ref h_c_figures, .int c_start, .int c_zerosAt, .int c_behind, .int c_withExponent])), (h_c_paper, .inr (0, [.ref h_c_paper_kept, .int out.2])), (h_c_paper_kept, .inl (cC, c_paper_kept_n, .inl out.1)), (h_c_figures, .inr (1, [.ref h_c_figures_digits, .int c_figures_count, .int c_figures_scale])), (h_c_figures_digits, .inl (cI, c_figures_digits_n, .inl c_figures_digits)), (h_d, .inr (2, [.int d_index, .int d_flags, .int d_flagTwice, .int d_width, .int d_precision, .int d_conversion, .int d_next]))]) args s 0 0 A) (F0 m 73 ls []) := by
  obtain ⟨hx, hb, hr, hml, hown, hts, hlocks, hK, hZ, hA⟩ := id C0
  intro c_paper_kept c_paper_length x2 hf H locs hw ls hl
  unfold f_Composer_widen_73 at hf
  refine lv_aload_n hx hb d_Composer_widen_73 rfl (lv_at hl 0 rfl) ?_
  refine va_get (D := (dC, dI)) (ci := 4) (v := .ref h_c_paper) (C := "DirectivePrinter$Composer") (T := T_Composer) (N := 6) hx hb hts (mm_up i_Composer) hown hK hw.1 0 rfl rfl 0 (by decide) (hts _ (List.mem_cons_of_mem _ q_187)) (fun _ h9 => h9) rfl d_Composer_widen_74 ?_
  refine lv_aload_n hx hb d_Composer_widen_77 rfl (lv_at hl 0 rfl) ?_
  refine va_get (D := (dC, dI)) (ci := 4) (v := .int c_start) (C := "DirectivePrinter$Composer") (T := T_Composer) (N := 6) hx hb hts (mm_up i_Composer) hown hK hw.1 0 rfl rfl 2 (by decide) (hts _ (List.mem_cons_of_mem _ q_190)) (fun _ h9 => h9) rfl d_Composer_widen_78 ?_
  refine lv_bipush (v := (32 : Int32)) hx hb d_Composer_widen_81 (by decide) ?_
  refine lv_iload_n hx hb d_Composer_widen_83 rfl (lv_at hl 1 rfl) ?_
  obtain ⟨o_4, o_5, hu, hf⟩ := mm_b2_ok hf
  refine mm_cv (wr := [(h_c, .inr (4, [.ref h_c_paper, .ref h_c_figures, .int c_start, .int c_zerosAt, .int c_behind, .int c_withExponent])), (h_c_figures, .inr (1, [.ref h_c_figures_digits, .int c_figures_count, .int c_figures_scale])), (h_c_figures_digits, .inl (cI, c_figures_digits_n, .inl c_figures_digits)), (h_d, .inr (2, [.int d_index, .int d_flags, .int d_flagTwice, .int d_width, .int d_precision, .int d_conversion, .int d_next]))]) (va_runV (As := [.int c_start, .int (32 : Int32), .int x2]) (rest := []) ⟨hx, hb, hml, hown, hts⟩ (c_Row_insert l Zo dC dI cC cI cJ cQ N c_paper_kept_n c_paper_kept c_paper_length c_start (32 : Int32) x2 h_c_paper h_c_paper_kept H.size (o_4, o_5) hu) (cwV 3 hts (mm_gV q_610 q_611 q_612 q_55 q_613) rfl rfl rfl (by decide +kernel) ⟨Nat.le_of_ble_eq_true rfl, Nat.le_of_ble_eq_true rfl⟩) (mm_pv Zo.1 hK hw hZ hA [1, 2] (by decide) rfl rfl (ci := 0) (q0 := 0) rfl rfl) rfl rfl hl.1 rfl (lv_room (Nat.le_of_ble_eq_true rfl)) d_Composer_widen_84 ⟨Nat.le_refl _, Nat.le_refl _⟩) hw hA [1, 2] [0, 3, 4, 5] rfl rfl (by decide) (by decide) (fun H locs hw => ?_)
  have hw : mm_w (dC, dI) vwC A s [(h_c, .inr (4, [.ref h_c_paper, .ref h_c_figures, .int c_start, .int c_zerosAt, .int c_behind, .int c_withExponent])), (h_c_figures, .inr (1, [.ref h_c_figures_digits, .int c_figures_count, .int c_figures_scale])), (h_c_figures_digits, .inl (cI, c_figures_digits_n, .inl c_figures_digits)), (h_d, .inr (2, [.int d_index, .int d_flags, .int d_flagTwice, .int d_width, .int d_precision, .int d_conversion, .int d_next])), (h_c_paper, .inr (0, [.ref h_c_paper_kept, .int o_5])), (h_c_paper_kept, .inl (cC, c_paper_kept_n, .inl o_4))] H locs := hw
  obtain rfl := Option.some.inj hf
  exact mm_vret hx hb hr hlocks hK (mm_wsub hw [0, 4, 5, 1, 2, 3] (by decide) rfl rfl) d_Composer_widen_87
set_option maxHeartbeats 4000000 in
set_option maxRecDepth 100000 in
theorem c_Composer_widen (l : Launch) {Z : (Nat → Prop) → State → Heap → Prop} {ad adK adV : Nat → Nat} (Zo : mm_Zx Z ad adK adV) (dC : Nat → ClassId) (dI : Nat → Nat → Nat) (cC cI cJ cQ : ClassId) (N : Nat) (c_paper_kept_n : Nat) (c_paper_kept : Nat → Int32) (c_paper_length : Int32) (c_figures_digits_n : Nat) (c_figures_digits : Nat → Int32) (c_figures_count : Int32) (c_figures_scale : Int32) (c_start : Int32) (c_zerosAt : Int32) (c_behind : Int32) (c_withExponent : Int32) (d_index : Int32) (d_flags : Int32) (d_flagTwice : Int32) (d_width : Int32) (d_precision : Int32) (d_conversion : Int32) (d_next : Int32) (h_c h_c_paper h_c_paper_kept h_c_figures h_c_figures_digits h_d : Nat) (sz : Nat) (out : (Nat → Int32) × Int32) (hf : f_Composer_widen N c_paper_kept_n c_paper_kept c_paper_length c_start c_zerosAt d_flags d_width = some out) : Met l y_Composer_widen w_Composer_widen r_Composer_widen (mm_pre (dC, dI) vwC (tyl cC cI cJ cQ) Z [(h_c, .inr (4, [.ref h_c_paper, .ref h_c_figures, .int c_start, .int c_zerosAt, .int c_behind, .int c_withExponent])), (h_c_paper, .inr (0, [.ref h_c_paper_kept, .int c_paper_length])), (h_c_paper_kept, .inl (cC, c_paper_kept_n, .inl c_paper_kept)), (h_c_figures, .inr (1, [.ref h_c_figures_digits, .int c_figures_count, .int c_figures_scale])), (h_c_figures_digits, .inl (cI, c_figures_digits_n, .inl c_figures_digits)), (h_d, .inr (2, [.int d_index, .int d_flags, .int d_flagTwice, .int d_width, .int d_precision, .int d_conversion, .int d_next]))] sz [.ref h_c, .ref h_d]) (mm_qv (dC, dI) vwC (tyl cC cI cJ cQ) (va_A [(h_c, .inr (4, [.ref h_c_paper, .ref h_c_figures, .int c_start, .int c_zerosAt, .int c_behind, .int c_withExponent])), (h_c_paper, .inr (0, [.ref h_c_paper_kept, .int c_paper_length])), (h_c_paper_kept, .inl (cC, c_paper_kept_n, .inl c_paper_kept)), (h_c_figures, .inr (1, [.ref h_c_figures_digits, .int c_figures_count, .int c_figures_scale])), (h_c_figures_digits, .inl (cI, c_figures_digits_n, .inl c_figures_digits)), (h_d, .inr (2, [.int d_index, .int d_flags, .int d_flagTwice, .int d_width, .int d_precision, .int d_conversion, .int d_next]))] sz) [(h_c, .inr (4, [.ref h_c_paper, .ref h_c_figures, .int c_start, .int c_zerosAt, .int c_behind, .int c_withExponent])), (h_c_paper, .inr (0, [.ref h_c_paper_kept, .int out.2])), (h_c_paper_kept, .inl (cC, c_paper_kept_n, .inl out.1)), (h_c_figures, .inr (1, [.ref h_c_figures_digits, .int c_figures_count, .int c_figures_scale])), (h_c_figures_digits, .inl (cI, c_figures_digits_n, .inl c_figures_digits)), (h_d, .inr (2, [.int d_index, .int d_flags, .int d_flagTwice, .int d_width, .int d_precision, .int d_conversion, .int d_next]))]) 0 0 (va_A [(h_c, .inr (4, [.ref h_c_paper, .ref h_c_figures, .int c_start, .int c_zerosAt, .int c_behind, .int c_withExponent])), (h_c_paper, .inr (0, [.ref h_c_paper_kept, .int c_paper_length])), (h_c_paper_kept, .inl (cC, c_paper_kept_n, .inl c_paper_kept)), (h_c_figures, .inr (1, [.ref h_c_figures_digits, .int c_figures_count, .int c_figures_scale])), (h_c_figures_digits, .inl (cI, c_figures_digits_n, .inl c_figures_digits)), (h_d, .inr (2, [.int d_index, .int d_flags, .int d_flagTwice, .int d_width, .int d_precision, .int d_conversion, .int d_next]))] sz) := by
  refine mm_of (own := "DirectivePrinter$Composer") (cc := b_Composer_widen) (maxL := 3) (ret := none) (by decide) rfl rfl ?_
  intro p e s m below meth c hsz C0 hw hname
  generalize (va_A [(h_c, .inr (4, [.ref h_c_paper, .ref h_c_figures, .int c_start, .int c_zerosAt, .int c_behind, .int c_withExponent])), (h_c_paper, .inr (0, [.ref h_c_paper_kept, .int c_paper_length])), (h_c_paper_kept, .inl (cC, c_paper_kept_n, .inl c_paper_kept)), (h_c_figures, .inr (1, [.ref h_c_figures_digits, .int c_figures_count, .int c_figures_scale])), (h_c_figures_digits, .inl (cI, c_figures_digits_n, .inl c_figures_digits)), (h_d, .inr (2, [.int d_index, .int d_flags, .int d_flagTwice, .int d_width, .int d_precision, .int d_conversion, .int d_next]))] sz) = A at C0 hw ⊢
  have hl := lv_entry ([.ref h_c, .ref h_d]) (n := 3) (Nat.le_of_ble_eq_true rfl)
  rw [lg_entry_eq]
  generalize (lg_sl ([.ref h_c, .ref h_d]) ++ List.replicate (3 - (lg_sl ([.ref h_c, .ref h_d])).length) Slot.unset).toArray = ls at hl ⊢
  have hl : lv_has ls 3 [(0, .ref h_c), (1, .ref h_d)] := hl
  obtain ⟨hx, hb, hr, hml, hown, hts, hlocks, hK, hZ, hA⟩ := id C0
  generalize s.heap = H at hw ⊢
  unfold f_Composer_widen at hf
  refine lv_aload_n hx hb d_Composer_widen_0 rfl (lv_at hl 1 rfl) ?_
  refine va_getN (D := (dC, dI)) (ci := 2) (v := .int d_width) (C := "DirectivePrinter$Directive") (T := T_Directive) (N := 7) hx hb hts (mm_up i_Directive) hown hK hw.1 5 rfl rfl 3 (by decide) (va_Nw.use rfl ((Zo.2 _ _ _ hZ).1 _ (List.mem_of_getElem? (i := 9) rfl))) (fun _ h9 => h9) rfl d_Composer_widen_1 ?_
  refine lv_aload_n hx hb d_Composer_widen_4 rfl (lv_at hl 0 rfl) ?_
  refine va_get (D := (dC, dI)) (ci := 4) (v := .ref h_c_paper) (C := "DirectivePrinter$Composer") (T := T_Composer) (N := 6) hx hb hts (mm_up i_Composer) hown hK hw.1 0 rfl rfl 0 (by decide) (hts _ (List.mem_cons_of_mem _ q_187)) (fun _ h9 => h9) rfl d_Composer_widen_5 ?_
  obtain ⟨r_1, hu, hf⟩ := mm_b1_ok hf
  refine mm_ci (wr := [(h_c, .inr (4, [.ref h_c_paper, .ref h_c_figures, .int c_start, .int c_zerosAt, .int c_behind, .int c_withExponent])), (h_c_figures, .inr (1, [.ref h_c_figures_digits, .int c_figures_count, .int c_figures_scale])), (h_c_figures_digits, .inl (cI, c_figures_digits_n, .inl c_figures_digits)), (h_d, .inr (2, [.int d_index, .int d_flags, .int d_flagTwice, .int d_width, .int d_precision, .int d_conversion, .int d_next]))]) (va_runV (As := []) (rest := [.int d_width]) ⟨hx, hb, hml, hown, hts⟩ (c_Row_size l Zo dC dI cC cI cJ cQ c_paper_kept_n c_paper_kept c_paper_length h_c_paper h_c_paper_kept H.size r_1 hu) (cwV 0 hts (mm_gV q_456 q_243 q_244 q_55 q_245) rfl rfl rfl (by decide +kernel) ⟨Nat.le_of_ble_eq_true rfl, Nat.le_of_ble_eq_true rfl⟩) (mm_pv Zo.1 hK hw hZ hA [1, 2] (by decide) rfl rfl (ci := 0) (q0 := 0) rfl rfl) rfl rfl hl.1 rfl (lv_room (Nat.le_of_ble_eq_true rfl)) d_Composer_widen_8 ⟨Nat.le_refl _, Nat.le_refl _⟩) hw hA [1, 2] [0, 3, 4, 5] rfl rfl (by decide) (by decide) (fun H locs hw => ?_)
  have hw : mm_w (dC, dI) vwC A s [(h_c, .inr (4, [.ref h_c_paper, .ref h_c_figures, .int c_start, .int c_zerosAt, .int c_behind, .int c_withExponent])), (h_c_figures, .inr (1, [.ref h_c_figures_digits, .int c_figures_count, .int c_figures_scale])), (h_c_figures_digits, .inl (cI, c_figures_digits_n, .inl c_figures_digits)), (h_d, .inr (2, [.int d_index, .int d_flags, .int d_flagTwice, .int d_width, .int d_precision, .int d_conversion, .int d_next])), (h_c_paper, .inr (0, [.ref h_c_paper_kept, .int c_paper_length])), (h_c_paper_kept, .inl (cC, c_paper_kept_n, .inl c_paper_kept))] H locs := hw
  refine lv_aload_n hx hb d_Composer_widen_11 rfl (lv_at hl 0 rfl) ?_
  refine va_get (D := (dC, dI)) (ci := 4) (v := .int c_start) (C := "DirectivePrinter$Composer") (T := T_Composer) (N := 6) hx hb hts (mm_up i_Composer) hown hK hw.1 0 rfl rfl 2 (by decide) (hts _ (List.mem_cons_of_mem _ q_190)) (fun _ h9 => h9) rfl d_Composer_widen_12 ?_
  refine lv_isub hx hb d_Composer_widen_15 ?_
  refine lv_isub hx hb d_Composer_widen_16 ?_
  refine lv_istore_n (lv' := [(2, .int (d_width - (r_1 - c_start))), (0, .ref h_c), (1, .ref h_d)]) hx hb d_Composer_widen_17 rfl hl (by decide) rfl (fun ls hl => ?_)
  refine lv_aload_n hx hb d_Composer_widen_18 rfl (lv_at hl 2 rfl) ?_
  refine lv_iconst (v := (1 : Int32)) hx hb d_Composer_widen_19 (by decide) ?_
  obtain ⟨r_2, hu, hf⟩ := mm_b1_ok hf
  refine mm_ci (wr := [(h_c, .inr (4, [.ref h_c_paper, .ref h_c_figures, .int c_start, .int c_zerosAt, .int c_behind, .int c_withExponent])), (h_c_figures, .inr (1, [.ref h_c_figures_digits, .int c_figures_count, .int c_figures_scale])), (h_c_figures_digits, .inl (cI, c_figures_digits_n, .inl c_figures_digits)), (h_c_paper, .inr (0, [.ref h_c_paper_kept, .int c_paper_length])), (h_c_paper_kept, .inl (cC, c_paper_kept_n, .inl c_paper_kept))]) (va_runV (As := [.int (1 : Int32)]) (rest := []) ⟨hx, hb, hml, hown, hts⟩ (c_Directive_has l Zo dC dI cC cI cJ cQ d_index d_flags d_flagTwice d_width d_precision d_conversion d_next (1 : Int32) h_d H.size r_2 hu) (cwV 1 hts (mm_gV q_561 q_390 q_391 q_60 q_392) rfl rfl rfl (by decide +kernel) ⟨Nat.le_of_ble_eq_true rfl, Nat.le_of_ble_eq_true rfl⟩) (mm_pv Zo.1 hK hw hZ hA [3] (by decide) rfl rfl (ci := 2) (q0 := 0) rfl rfl) rfl rfl hl.1 rfl (lv_room (Nat.le_of_ble_eq_true rfl)) d_Composer_widen_20 ⟨Nat.le_refl _, Nat.le_refl _⟩) hw hA [3] [0, 1, 2, 4, 5] rfl rfl (by decide) (by decide) (fun H locs hw => ?_)
  have hw : mm_w (dC, dI) vwC A s [(h_c, .inr (4, [.ref h_c_paper, .ref h_c_figures, .int c_start, .int c_zerosAt, .int c_behind, .int c_withExponent])), (h_c_figures, .inr (1, [.ref h_c_figures_digits, .int c_figures_count, .int c_figures_scale])), (h_c_figures_digits, .inl (cI, c_figures_digits_n, .inl c_figures_digits)), (h_c_paper, .inr (0, [.ref h_c_paper_kept, .int c_paper_length])), (h_c_paper_kept, .inl (cC, c_paper_kept_n, .inl c_paper_kept)), (h_d, .inr (2, [.int d_index, .int d_flags, .int d_flagTwice, .int d_width, .int d_precision, .int d_conversion, .int d_next]))] H locs := hw
  refine lv_if_eq (tgt := 39) hx hb d_Composer_widen_23 (by decide) (fun hc => ?_) (fun hc => ?_)
  · replace hf := mm_ip hc hf
    refine lv_aload_n hx hb d_Composer_widen_39 rfl (lv_at hl 2 rfl) ?_
    refine lv_bipush (v := (8 : Int32)) hx hb d_Composer_widen_40 (by decide) ?_
    obtain ⟨r_3, hu, hf⟩ := mm_b1_ok hf
    refine mm_ci (wr := [(h_c, .inr (4, [.ref h_c_paper, .ref h_c_figures, .int c_start, .int c_zerosAt, .int c_behind, .int c_withExponent])), (h_c_figures, .inr (1, [.ref h_c_figures_digits, .int c_figures_count, .int c_figures_scale])), (h_c_figures_digits, .inl (cI, c_figures_digits_n, .inl c_figures_digits)), (h_c_paper, .inr (0, [.ref h_c_paper_kept, .int c_paper_length])), (h_c_paper_kept, .inl (cC, c_paper_kept_n, .inl c_paper_kept))]) (va_runV (As := [.int (8 : Int32)]) (rest := []) ⟨hx, hb, hml, hown, hts⟩ (c_Directive_has l Zo dC dI cC cI cJ cQ d_index d_flags d_flagTwice d_width d_precision d_conversion d_next (8 : Int32) h_d H.size r_3 hu) (cwV 1 hts (mm_gV q_561 q_390 q_391 q_60 q_392) rfl rfl rfl (by decide +kernel) ⟨Nat.le_of_ble_eq_true rfl, Nat.le_of_ble_eq_true rfl⟩) (mm_pv Zo.1 hK hw hZ hA [5] (by decide) rfl rfl (ci := 2) (q0 := 0) rfl rfl) rfl rfl hl.1 rfl (lv_room (Nat.le_of_ble_eq_true rfl)) d_Composer_widen_42 ⟨Nat.le_refl _, Nat.le_refl _⟩) hw hA [5] [0, 1, 2, 3, 4] rfl rfl (by decide) (by decide) (fun H locs hw => ?_)
    have hw : mm_w (dC, dI) vwC A s [(h_c, .inr (4, [.ref h_c_paper, .ref h_c_figures, .int c_start, .int c_zerosAt, .int c_behind, .int c_withExponent])), (h_c_figures, .inr (1, [.ref h_c_figures_digits, .int c_figures_count, .int c_figures_scale])), (h_c_figures_digits, .inl (cI, c_figures_digits_n, .inl c_figures_digits)), (h_c_paper, .inr (0, [.ref h_c_paper_kept, .int c_paper_length])), (h_c_paper_kept, .inl (cC, c_paper_kept_n, .inl c_paper_kept)), (h_d, .inr (2, [.int d_index, .int d_flags, .int d_flagTwice, .int d_width, .int d_precision, .int d_conversion, .int d_next]))] H locs := hw
    refine lv_if_eq (tgt := 73) hx hb d_Composer_widen_45 (by decide) (fun hc => ?_) (fun hc => ?_)
    · replace hf := mm_ip hc hf
      exact b_Composer_widen_73 Zo C0 N c_paper_kept_n c_figures_digits_n c_figures_digits c_figures_count c_figures_scale c_start c_zerosAt c_behind c_withExponent d_index d_flags d_flagTwice d_width d_precision d_conversion d_next  out c_paper_kept c_paper_length (d_width - (r_1 - c_start)) hf _ _ (mm_wsub hw [0, 3, 4, 1, 2, 5] (by decide) rfl rfl) _ (lv_sub hl [1, 0] rfl)
    · replace hf := mm_in hc hf
      refine lv_aload_n hx hb d_Composer_widen_48 rfl (lv_at hl 1 rfl) ?_
      refine va_get (D := (dC, dI)) (ci := 4) (v := .int c_zerosAt) (C := "DirectivePrinter$Composer") (T := T_Composer) (N := 6) hx hb hts (mm_up i_Composer) hown hK hw.1 0 rfl rfl 3 (by decide) (hts _ (List.mem_cons_of_mem _ q_191)) (fun _ h9 => h9) rfl d_Composer_widen_49 ?_
      refine lv_iconst (v := (-1 : Int32)) hx hb d_Composer_widen_52 (by decide) ?_
      refine lv_icmp_eq (tgt := 73) hx hb d_Composer_widen_53 (by decide) (fun hc => ?_) (fun hc => ?_)
      · replace hf := mm_ip hc hf
        exact b_Composer_widen_73 Zo C0 N c_paper_kept_n c_figures_digits_n c_figures_digits c_figures_count c_figures_scale c_start c_zerosAt c_behind c_withExponent d_index d_flags d_flagTwice d_width d_precision d_conversion d_next  out c_paper_kept c_paper_length (d_width - (r_1 - c_start)) hf _ _ (mm_wsub hw [0, 3, 4, 1, 2, 5] (by decide) rfl rfl) _ (lv_sub hl [1, 0] rfl)
      · replace hf := mm_in hc hf
        refine lv_aload_n hx hb d_Composer_widen_56 rfl (lv_at hl 1 rfl) ?_
        refine va_get (D := (dC, dI)) (ci := 4) (v := .ref h_c_paper) (C := "DirectivePrinter$Composer") (T := T_Composer) (N := 6) hx hb hts (mm_up i_Composer) hown hK hw.1 0 rfl rfl 0 (by decide) (hts _ (List.mem_cons_of_mem _ q_187)) (fun _ h9 => h9) rfl d_Composer_widen_57 ?_
        refine lv_aload_n hx hb d_Composer_widen_60 rfl (lv_at hl 1 rfl) ?_
        refine va_get (D := (dC, dI)) (ci := 4) (v := .int c_zerosAt) (C := "DirectivePrinter$Composer") (T := T_Composer) (N := 6) hx hb hts (mm_up i_Composer) hown hK hw.1 0 rfl rfl 3 (by decide) (hts _ (List.mem_cons_of_mem _ q_191)) (fun _ h9 => h9) rfl d_Composer_widen_61 ?_
        refine lv_bipush (v := (48 : Int32)) hx hb d_Composer_widen_64 (by decide) ?_
        refine lv_iload_n hx hb d_Composer_widen_66 rfl (lv_at hl 0 rfl) ?_
        obtain ⟨o_6, o_7, hu, hf⟩ := mm_b2_ok hf
        refine mm_cv (wr := [(h_c, .inr (4, [.ref h_c_paper, .ref h_c_figures, .int c_start, .int c_zerosAt, .int c_behind, .int c_withExponent])), (h_c_figures, .inr (1, [.ref h_c_figures_digits, .int c_figures_count, .int c_figures_scale])), (h_c_figures_digits, .inl (cI, c_figures_digits_n, .inl c_figures_digits)), (h_d, .inr (2, [.int d_index, .int d_flags, .int d_flagTwice, .int d_width, .int d_precision, .int d_conversion, .int d_next]))]) (va_runV (As := [.int c_zerosAt, .int (48 : Int32), .int (d_width - (r_1 - c_start))]) (rest := []) ⟨hx, hb, hml, hown, hts⟩ (c_Row_insert l Zo dC dI cC cI cJ cQ N c_paper_kept_n c_paper_kept c_paper_length c_zerosAt (48 : Int32) (d_width - (r_1 - c_start)) h_c_paper h_c_paper_kept H.size (o_6, o_7) hu) (cwV 3 hts (mm_gV q_610 q_611 q_612 q_55 q_613) rfl rfl rfl (by decide +kernel) ⟨Nat.le_of_ble_eq_true rfl, Nat.le_of_ble_eq_true rfl⟩) (mm_pv Zo.1 hK hw hZ hA [3, 4] (by decide) rfl rfl (ci := 0) (q0 := 0) rfl rfl) rfl rfl hl.1 rfl (lv_room (Nat.le_of_ble_eq_true rfl)) d_Composer_widen_67 ⟨Nat.le_refl _, Nat.le_refl _⟩) hw hA [3, 4] [0, 1, 2, 5] rfl rfl (by decide) (by decide) (fun H locs hw => ?_)
        have hw : mm_w (dC, dI) vwC A s [(h_c, .inr (4, [.ref h_c_paper, .ref h_c_figures, .int c_start, .int c_zerosAt, .int c_behind, .int c_withExponent])), (h_c_figures, .inr (1, [.ref h_c_figures_digits, .int c_figures_count, .int c_figures_scale])), (h_c_figures_digits, .inl (cI, c_figures_digits_n, .inl c_figures_digits)), (h_d, .inr (2, [.int d_index, .int d_flags, .int d_flagTwice, .int d_width, .int d_precision, .int d_conversion, .int d_next])), (h_c_paper, .inr (0, [.ref h_c_paper_kept, .int o_7])), (h_c_paper_kept, .inl (cC, c_paper_kept_n, .inl o_6))] H locs := hw
        refine lv_goto (tgt := 87) hx hb d_Composer_widen_70 (by decide) ?_
        obtain rfl := Option.some.inj hf
        exact mm_vret hx hb hr hlocks hK (mm_wsub hw [0, 4, 5, 1, 2, 3] (by decide) rfl rfl) d_Composer_widen_87
  · replace hf := mm_in hc hf
    refine lv_aload_n hx hb d_Composer_widen_26 rfl (lv_at hl 1 rfl) ?_
    refine va_get (D := (dC, dI)) (ci := 4) (v := .ref h_c_paper) (C := "DirectivePrinter$Composer") (T := T_Composer) (N := 6) hx hb hts (mm_up i_Composer) hown hK hw.1 0 rfl rfl 0 (by decide) (hts _ (List.mem_cons_of_mem _ q_187)) (fun _ h9 => h9) rfl d_Composer_widen_27 ?_
    refine lv_bipush (v := (32 : Int32)) hx hb d_Composer_widen_30 (by decide) ?_
    refine lv_iload_n hx hb d_Composer_widen_32 rfl (lv_at hl 0 rfl) ?_
    obtain ⟨o_8, o_9, hu, hf⟩ := mm_b2_ok hf
    refine mm_cv (wr := [(h_c, .inr (4, [.ref h_c_paper, .ref h_c_figures, .int c_start, .int c_zerosAt, .int c_behind, .int c_withExponent])), (h_c_figures, .inr (1, [.ref h_c_figures_digits, .int c_figures_count, .int c_figures_scale])), (h_c_figures_digits, .inl (cI, c_figures_digits_n, .inl c_figures_digits)), (h_d, .inr (2, [.int d_index, .int d_flags, .int d_flagTwice, .int d_width, .int d_precision, .int d_conversion, .int d_next]))]) (va_runV (As := [.int (32 : Int32), .int (d_width - (r_1 - c_start))]) (rest := []) ⟨hx, hb, hml, hown, hts⟩ (c_Row_addMany l Zo dC dI cC cI cJ cQ N c_paper_kept_n c_paper_kept c_paper_length (32 : Int32) (d_width - (r_1 - c_start)) h_c_paper h_c_paper_kept H.size (o_8, o_9) hu) (cwV 2 hts (mm_gV q_553 q_554 q_555 q_55 q_556) rfl rfl rfl (by decide +kernel) ⟨Nat.le_of_ble_eq_true rfl, Nat.le_of_ble_eq_true rfl⟩) (mm_pv Zo.1 hK hw hZ hA [3, 4] (by decide) rfl rfl (ci := 0) (q0 := 0) rfl rfl) rfl rfl hl.1 rfl (lv_room (Nat.le_of_ble_eq_true rfl)) d_Composer_widen_33 ⟨Nat.le_refl _, Nat.le_refl _⟩) hw hA [3, 4] [0, 1, 2, 5] rfl rfl (by decide) (by decide) (fun H locs hw => ?_)
    have hw : mm_w (dC, dI) vwC A s [(h_c, .inr (4, [.ref h_c_paper, .ref h_c_figures, .int c_start, .int c_zerosAt, .int c_behind, .int c_withExponent])), (h_c_figures, .inr (1, [.ref h_c_figures_digits, .int c_figures_count, .int c_figures_scale])), (h_c_figures_digits, .inl (cI, c_figures_digits_n, .inl c_figures_digits)), (h_d, .inr (2, [.int d_index, .int d_flags, .int d_flagTwice, .int d_width, .int d_precision, .int d_conversion, .int d_next])), (h_c_paper, .inr (0, [.ref h_c_paper_kept, .int o_9])), (h_c_paper_kept, .inl (cC, c_paper_kept_n, .inl o_8))] H locs := hw
    refine lv_goto (tgt := 87) hx hb d_Composer_widen_36 (by decide) ?_
    obtain rfl := Option.some.inj hf
    exact mm_vret hx hb hr hlocks hK (mm_wsub hw [0, 4, 5, 1, 2, 3] (by decide) rfl rfl) d_Composer_widen_87
/-! DirectivePrinter$Composer.addBehindPoint(IZ)V -/
def f_Composer_addBehindPoint_46 (N : Nat) (c_paper_kept_n : Nat) (c_figures_digits_n : Nat) (c_figures_digits : Nat → Int32) (c_figures_count : Int32) (c_figures_scale : Int32) (c_behind : Int32) (fp : Int32) : Nat → (Nat → Int32) → Int32 → Int32 → Int32 → Option ((Nat → Int32) × Int32)
  | 0, _, _, _, _ => none
  | fu + 1, c_paper_kept, c_paper_length, x3, x4 => (if x3 ≤ x4 then mm_b2 (f_Row_addMany N c_paper_kept_n c_paper_kept c_paper_length (48 : Int32) (c_behind - x3)) (fun o_4 o_5 => some (o_4, o_5)) else mm_b1 (f_Figures_sign c_figures_digits_n c_figures_digits c_figures_count c_figures_scale (fp - x4)) (fun r_6 => mm_b2 (f_Row_add c_paper_kept_n c_paper_kept c_paper_length r_6) (fun o_7 o_8 => f_Composer_addBehindPoint_46 N c_paper_kept_n c_figures_digits_n c_figures_digits c_figures_count c_figures_scale c_behind fp fu o_7 o_8 x3 (x4 + (1 : Int32)))))
def f_Composer_addBehindPoint_20 (N : Nat) (c_paper_kept_n : Nat) (c_figures_digits_n : Nat) (c_figures_digits : Nat → Int32) (c_figures_count : Int32) (c_figures_scale : Int32) (c_behind : Int32) (fp : Int32) (c_paper_kept : Nat → Int32) (c_paper_length : Int32) : Option ((Nat → Int32) × Int32) := mm_b1 (f_Figures_lowestPower c_figures_scale) (fun r_3 => f_Composer_addBehindPoint_46 N c_paper_kept_n c_figures_digits_n c_figures_digits c_figures_count c_figures_scale c_behind fp N c_paper_kept c_paper_length (if (if ((fp - r_3) + (1 : Int32)) < (0 : Int32) then (0 : Int32) else ((fp - r_3) + (1 : Int32))) < c_behind then (if ((fp - r_3) + (1 : Int32)) < (0 : Int32) then (0 : Int32) else ((fp - r_3) + (1 : Int32))) else c_behind) (0 : Int32))
def f_Composer_addBehindPoint_11 (N : Nat) (c_paper_kept_n : Nat) (c_figures_digits_n : Nat) (c_figures_digits : Nat → Int32) (c_figures_count : Int32) (c_figures_scale : Int32) (c_behind : Int32) (fp : Int32) (c_paper_kept : Nat → Int32) (c_paper_length : Int32) : Option ((Nat → Int32) × Int32) := mm_b2 (f_Row_add c_paper_kept_n c_paper_kept c_paper_length (46 : Int32)) (fun o_1 o_2 => f_Composer_addBehindPoint_20 N c_paper_kept_n c_figures_digits_n c_figures_digits c_figures_count c_figures_scale c_behind fp o_1 o_2)
def f_Composer_addBehindPoint (N : Nat) (c_paper_kept_n : Nat) (c_paper_kept : Nat → Int32) (c_paper_length : Int32) (c_figures_digits_n : Nat) (c_figures_digits : Nat → Int32) (c_figures_count : Int32) (c_figures_scale : Int32) (c_behind : Int32) (fp : Int32) (pt : Int32) : Option ((Nat → Int32) × Int32) := (if 0 < c_behind then f_Composer_addBehindPoint_11 N c_paper_kept_n c_figures_digits_n c_figures_digits c_figures_count c_figures_scale c_behind fp c_paper_kept c_paper_length else (if pt = 0 then f_Composer_addBehindPoint_20 N c_paper_kept_n c_figures_digits_n c_figures_digits c_figures_count c_figures_scale c_behind fp c_paper_kept c_paper_length else f_Composer_addBehindPoint_11 N c_paper_kept_n c_figures_digits_n c_figures_digits c_figures_count c_figures_scale c_behind fp c_paper_kept c_paper_length))
abbrev r_Composer_addBehindPoint : Room := { frames := 5, cells := 0, slots := 0, locals := 108 }
set_option maxHeartbeats 4000000 in
set_option maxRecDepth 100000 in
theorem b_Composer_addBehindPoint_46 {h_c h_c_paper h_c_paper_kept h_c_figures h_c_figures_digits : Nat} (Zo : mm_Zx Z ad adK adV) (C0 : mm_cx (dC, dI) vwC (tyl cC cI cJ cQ) Z p s m args meth c b_Composer_addBehindPoint 5 none "DirectivePrinter$Composer" w_Composer_addBehindPoint A) (N : Nat) (c_paper_kept_n : Nat) (c_figures_digits_n : Nat) (c_figures_digits : Nat → Int32) (c_figures_count : Int32) (c_figures_scale : Int32) (c_start : Int32) (c_zerosAt : Int32) (c_behind : Int32) (c_withExponent : Int32) (fp : Int32) (pt : Int32) (out : (Nat → Int32) × Int32) : ∀ (fuel : Nat) (c_paper_kept : Nat → Int32) (c_paper_length : Int32) (x3 : Int32) (x4 : Int32), f_Composer_addBehindPoint_46 N c_paper_kept_n c_figures_digits_n c_figures_digits c_figures_count c_figures_scale c_behind fp fuel c_paper_kept c_paper_length x3 x4 = some out → ∀ (H : Heap) (locs : List Loc), mm_w (dC, dI) vwC A s [(h_c, .inr (4, [.ref h_c_paper, .ref h_c_figures, .int c_start, .int c_zerosAt, .int c_behind, .int c_withExponent])), (h_c_paper, .inr (0, [.ref h_c_paper_kept, .int c_paper_length])), (h_c_paper_kept, .inl (cC, c_paper_kept_n, .inl c_paper_kept)), (h_c_figures, .inr (1, [.ref h_c_figures_digits, .int c_figures_count, .int c_figures_scale])), (h_c_figures_digits, .inl (cI, c_figures_digits_n, .inl c_figures_digits))] H locs → ∀ (ls : Array Slot), lv_has ls 5 [(0, .ref h_c), (1, .int fp), (3, .int x3), (4, .int x4)] → W p l e r_Composer_addBehindPoint s m args below meth c H locs 0 0 (MQ below (mm_qv (dC, dI) vwC (tyl cC cI cJ cQ) A [(h_c, .inr (4, [.ref h_c_paper, .ref h_c_figures, .int c_start, .int c_zerosAt, .int c_behind, .int c_withExponent])), (h_c_paper, .inr (0, [.ref h_c_paper_kept, .int out.2])), (h_c_paper_kept, .inl (cC, c_paper_kept_n, .inl out.1)), (h_c_figures, .inr (1, [.ref h_c_figures_digits, .int c_figures_count, .int c_figures_scale])), (h_c_figures_digits, .inl (cI, c_figures_digits_n, .inl c_figures_digits))]) args s 0 0 A) (F0 m 46 ls []) := by
  obtain ⟨hx, hb, hr, hml, hown, hts, hlocks, hK, hZ, hA⟩ := id C0
  intro fuel
  induction fuel with
  | zero =>
    intro c_paper_kept c_paper_length x3 x4 hf
    cases (show (none : Option ((Nat → Int32) × Int32)) = some out from hf)
  | succ fu ih =>
    intro c_paper_kept c_paper_length x3 x4 hf H locs hw ls hl
    unfold f_Composer_addBehindPoint_46 at hf
    refine lv_iload hx hb d_Composer_addBehindPoint_46 (lv_at hl 3 rfl) ?_
    refine lv_iload_n hx hb d_Composer_addBehindPoint_48 rfl (lv_at hl 2 rfl) ?_
    refine lv_icmp_ge (tgt := 76) hx hb d_Composer_addBehindPoint_49 (by decide) (fun hc => ?_) (fun hc => ?_)
    · replace hf := mm_ip hc hf
      refine lv_aload_n hx hb d_Composer_addBehindPoint_76 rfl (lv_at hl 0 rfl) ?_
      refine va_get (D := (dC, dI)) (ci := 4) (v := .ref h_c_paper) (C := "DirectivePrinter$Composer") (T := T_Composer) (N := 6) hx hb hts (mm_up i_Composer) hown hK hw.1 0 rfl rfl 0 (by decide) (hts _ (List.mem_cons_of_mem _ q_187)) (fun _ h9 => h9) rfl d_Composer_addBehindPoint_77 ?_
      refine lv_bipush (v := (48 : Int32)) hx hb d_Composer_addBehindPoint_80 (by decide) ?_
      refine lv_aload_n hx hb d_Composer_addBehindPoint_82 rfl (lv_at hl 0 rfl) ?_
      refine va_get (D := (dC, dI)) (ci := 4) (v := .int c_behind) (C := "DirectivePrinter$Composer") (T := T_Composer) (N := 6) hx hb hts (mm_up i_Composer) hown hK hw.1 0 rfl rfl 4 (by decide) (hts _ (List.mem_cons_of_mem _ q_192)) (fun _ h9 => h9) rfl d_Composer_addBehindPoint_83 ?_
      refine lv_iload_n hx hb d_Composer_addBehindPoint_86 rfl (lv_at hl 2 rfl) ?_
      refine lv_isub hx hb d_Composer_addBehindPoint_87 ?_
      obtain ⟨o_4, o_5, hu, hf⟩ := mm_b2_ok hf
      refine mm_cv (wr := [(h_c, .inr (4, [.ref h_c_paper, .ref h_c_figures, .int c_start, .int c_zerosAt, .int c_behind, .int c_withExponent])), (h_c_figures, .inr (1, [.ref h_c_figures_digits, .int c_figures_count, .int c_figures_scale])), (h_c_figures_digits, .inl (cI, c_figures_digits_n, .inl c_figures_digits))]) (va_runV (As := [.int (48 : Int32), .int (c_behind - x3)]) (rest := []) ⟨hx, hb, hml, hown, hts⟩ (c_Row_addMany l Zo dC dI cC cI cJ cQ N c_paper_kept_n c_paper_kept c_paper_length (48 : Int32) (c_behind - x3) h_c_paper h_c_paper_kept H.size (o_4, o_5) hu) (cwV 2 hts (mm_gV q_553 q_554 q_555 q_55 q_556) rfl rfl rfl (by decide +kernel) ⟨Nat.le_of_ble_eq_true rfl, Nat.le_of_ble_eq_true rfl⟩) (mm_pv Zo.1 hK hw hZ hA [1, 2] (by decide) rfl rfl (ci := 0) (q0 := 0) rfl rfl) rfl rfl hl.1 rfl (lv_room (Nat.le_of_ble_eq_true rfl)) d_Composer_addBehindPoint_88 ⟨Nat.le_refl _, Nat.le_refl _⟩) hw hA [1, 2] [0, 3, 4] rfl rfl (by decide) (by decide) (fun H locs hw => ?_)
      have hw : mm_w (dC, dI) vwC A s [(h_c, .inr (4, [.ref h_c_paper, .ref h_c_figures, .int c_start, .int c_zerosAt, .int c_behind, .int c_withExponent])), (h_c_figures, .inr (1, [.ref h_c_figures_digits, .int c_figures_count, .int c_figures_scale])), (h_c_figures_digits, .inl (cI, c_figures_digits_n, .inl c_figures_digits)), (h_c_paper, .inr (0, [.ref h_c_paper_kept, .int o_5])), (h_c_paper_kept, .inl (cC, c_paper_kept_n, .inl o_4))] H locs := hw
      obtain rfl := Option.some.inj hf
      exact mm_vret hx hb hr hlocks hK (mm_wsub hw [0, 3, 4, 1, 2] (by decide) rfl rfl) d_Composer_addBehindPoint_91
    · replace hf := mm_in hc hf
      refine lv_aload_n hx hb d_Composer_addBehindPoint_52 rfl (lv_at hl 0 rfl) ?_
      refine va_get (D := (dC, dI)) (ci := 4) (v := .ref h_c_paper) (C := "DirectivePrinter$Composer") (T := T_Composer) (N := 6) hx hb hts (mm_up i_Composer) hown hK hw.1 0 rfl rfl 0 (by decide) (hts _ (List.mem_cons_of_mem _ q_187)) (fun _ h9 => h9) rfl d_Composer_addBehindPoint_53 ?_
      refine lv_aload_n hx hb d_Composer_addBehindPoint_56 rfl (lv_at hl 0 rfl) ?_
      refine va_get (D := (dC, dI)) (ci := 4) (v := .ref h_c_figures) (C := "DirectivePrinter$Composer") (T := T_Composer) (N := 6) hx hb hts (mm_up i_Composer) hown hK hw.1 0 rfl rfl 1 (by decide) (hts _ (List.mem_cons_of_mem _ q_189)) (fun _ h9 => h9) rfl d_Composer_addBehindPoint_57 ?_
      refine lv_iload_n hx hb d_Composer_addBehindPoint_60 rfl (lv_at hl 1 rfl) ?_
      refine lv_iload hx hb d_Composer_addBehindPoint_61 (lv_at hl 3 rfl) ?_
      refine lv_isub hx hb d_Composer_addBehindPoint_63 ?_
      obtain ⟨r_6, hu, hf⟩ := mm_b1_ok hf
      refine mm_ci (wr := [(h_c, .inr (4, [.ref h_c_paper, .ref h_c_figures, .int c_start, .int c_zerosAt, .int c_behind, .int c_withExponent])), (h_c_paper, .inr (0, [.ref h_c_paper_kept, .int c_paper_length])), (h_c_paper_kept, .inl (cC, c_paper_kept_n, .inl c_paper_kept))]) (va_runV (As := [.int (fp - x4)]) (rest := [.ref h_c_paper]) ⟨hx, hb, hml, hown, hts⟩ (c_Figures_sign l Zo dC dI cC cI cJ cQ c_figures_digits_n c_figures_digits c_figures_count c_figures_scale (fp - x4) h_c_figures h_c_figures_digits H.size r_6 hu) (cwV 1 hts (mm_gV q_537 q_538 q_539 q_62 q_540) rfl rfl rfl (by decide +kernel) ⟨Nat.le_of_ble_eq_true rfl, Nat.le_of_ble_eq_true rfl⟩) (mm_pv Zo.1 hK hw hZ hA [3, 4] (by decide) rfl rfl (ci := 1) (q0 := 0) rfl rfl) rfl rfl hl.1 rfl (lv_room (Nat.le_of_ble_eq_true rfl)) d_Composer_addBehindPoint_64 ⟨Nat.le_refl _, Nat.le_refl _⟩) hw hA [3, 4] [0, 1, 2] rfl rfl (by decide) (by decide) (fun H locs hw => ?_)
      have hw : mm_w (dC, dI) vwC A s [(h_c, .inr (4, [.ref h_c_paper, .ref h_c_figures, .int c_start, .int c_zerosAt, .int c_behind, .int c_withExponent])), (h_c_paper, .inr (0, [.ref h_c_paper_kept, .int c_paper_length])), (h_c_paper_kept, .inl (cC, c_paper_kept_n, .inl c_paper_kept)), (h_c_figures, .inr (1, [.ref h_c_figures_digits, .int c_figures_count, .int c_figures_scale])), (h_c_figures_digits, .inl (cI, c_figures_digits_n, .inl c_figures_digits))] H locs := hw
      obtain ⟨o_7, o_8, hu, hf⟩ := mm_b2_ok hf
      refine mm_cv (wr := [(h_c, .inr (4, [.ref h_c_paper, .ref h_c_figures, .int c_start, .int c_zerosAt, .int c_behind, .int c_withExponent])), (h_c_figures, .inr (1, [.ref h_c_figures_digits, .int c_figures_count, .int c_figures_scale])), (h_c_figures_digits, .inl (cI, c_figures_digits_n, .inl c_figures_digits))]) (va_runV (As := [.int r_6]) (rest := []) ⟨hx, hb, hml, hown, hts⟩ (c_Row_add l Zo dC dI cC cI cJ cQ c_paper_kept_n c_paper_kept c_paper_length r_6 h_c_paper h_c_paper_kept H.size (o_7, o_8) hu) (cwV 1 hts (mm_gV q_458 q_459 q_460 q_55 q_461) rfl rfl rfl (by decide +kernel) ⟨Nat.le_of_ble_eq_true rfl, Nat.le_of_ble_eq_true rfl⟩) (mm_pv Zo.1 hK hw hZ hA [1, 2] (by decide) rfl rfl (ci := 0) (q0 := 0) rfl rfl) rfl rfl hl.1 rfl (lv_room (Nat.le_of_ble_eq_true rfl)) d_Composer_addBehindPoint_67 ⟨Nat.le_refl _, Nat.le_refl _⟩) hw hA [1, 2] [0, 3, 4] rfl rfl (by decide) (by decide) (fun H locs hw => ?_)
      have hw : mm_w (dC, dI) vwC A s [(h_c, .inr (4, [.ref h_c_paper, .ref h_c_figures, .int c_start, .int c_zerosAt, .int c_behind, .int c_withExponent])), (h_c_figures, .inr (1, [.ref h_c_figures_digits, .int c_figures_count, .int c_figures_scale])), (h_c_figures_digits, .inl (cI, c_figures_digits_n, .inl c_figures_digits)), (h_c_paper, .inr (0, [.ref h_c_paper_kept, .int o_8])), (h_c_paper_kept, .inl (cC, c_paper_kept_n, .inl o_7))] H locs := hw
      refine lv_iinc (v := x4 + (1 : Int32)) (lv' := [(4, .int (x4 + (1 : Int32))), (0, .ref h_c), (1, .int fp), (3, .int x3)]) hx hb d_Composer_addBehindPoint_70 hl (k := 3) rfl rfl (by decide) rfl (fun ls hl => ?_)
      refine lv_goto (tgt := 46) hx hb d_Composer_addBehindPoint_73 (by decide) ?_
      exact ih o_7 o_8 x3 (x4 + (1 : Int32)) hf _ _ (mm_wsub hw [0, 3, 4, 1, 2] (by decide) rfl rfl) _ (lv_sub hl [1, 2, 3, 0] rfl)
set_option maxHeartbeats 4000000 in
set_option maxRecDepth 100000 in
theorem b_Composer_addBehindPoint_20 {h_c h_c_paper h_c_paper_kept h_c_figures h_c_figures_digits : Nat} (Zo : mm_Zx Z ad adK adV) (C0 : mm_cx (dC, dI) vwC (tyl cC cI cJ cQ) Z p s m args meth c b_Composer_addBehindPoint 5 none "DirectivePrinter$Composer" w_Composer_addBehindPoint A) (N : Nat) (c_paper_kept_n : Nat) (c_figures_digits_n : Nat) (c_figures_digits : Nat → Int32) (c_figures_count : Int32) (c_figures_scale : Int32) (c_start : Int32) (c_zerosAt : Int32) (c_behind : Int32) (c_withExponent : Int32) (fp : Int32) (pt : Int32) (out : (Nat → Int32) × Int32) : ∀ (c_paper_kept : Nat → Int32) (c_paper_length : Int32), f_Composer_addBehindPoint_20 N c_paper_kept_n c_figures_digits_n c_figures_digits c_figures_count c_figures_scale c_behind fp c_paper_kept c_paper_length = some out → ∀ (H : Heap) (locs : List Loc), mm_w (dC, dI) vwC A s [(h_c, .inr (4, [.ref h_c_paper, .ref h_c_figures, .int c_start, .int c_zerosAt, .int c_behind, .int c_withExponent])), (h_c_paper, .inr (0, [.ref h_c_paper_kept, .int c_paper_length])), (h_c_paper_kept, .inl (cC, c_paper_kept_n, .inl c_paper_kept)), (h_c_figures, .inr (1, [.ref h_c_figures_digits, .int c_figures_count, .int c_figures_scale])), (h_c_figures_digits, .inl (cI, c_figures_digits_n, .inl c_figures_digits))] H locs → ∀ (ls : Array Slot), lv_has ls 5 [(0, .ref h_c), (1, .int fp)] → W p l e r_Composer_addBehindPoint s m args below meth c H locs 0 0 (MQ below (mm_qv (dC, dI) vwC (tyl cC cI cJ cQ) A [(h_c, .inr (4, [.ref h_c_paper, .ref h_c_figures, .int c_start, .int c_zerosAt, .int c_behind, .int c_withExponent])), (h_c_paper, .inr (0, [.ref h_c_paper_kept, .int out.2])), (h_c_paper_kept, .inl (cC, c_paper_kept_n, .inl out.1)), (h_c_figures, .inr (1, [.ref h_c_figures_digits, .int c_figures_count, .int c_figures_scale])), (h_c_figures_digits, .inl (cI, c_figures_digits_n, .inl c_figures_digits))]) args s 0 0 A) (F0 m 20 ls []) := by
  obtain ⟨hx, hb, hr, hml, hown, hts, hlocks, hK, hZ, hA⟩ := id C0
  intro c_paper_kept c_paper_length hf H locs hw ls hl
  unfold f_Composer_addBehindPoint_20 at hf
  refine lv_aload_n hx hb d_Composer_addBehindPoint_20 rfl (lv_at hl 0 rfl) ?_
  refine va_get (D := (dC, dI)) (ci := 4) (v := .int c_behind) (C := "DirectivePrinter$Composer") (T := T_Composer) (N := 6) hx hb hts (mm_up i_Composer) hown hK hw.1 0 rfl rfl 4 (by decide) (hts _ (List.mem_cons_of_mem _ q_192)) (fun _ h9 => h9) rfl d_Composer_addBehindPoint_21 ?_
  refine lv_iload_n hx hb d_Composer_addBehindPoint_24 rfl (lv_at hl 1 rfl) ?_
  refine lv_aload_n hx hb d_Composer_addBehindPoint_25 rfl (lv_at hl 0 rfl) ?_
  refine va_get (D := (dC, dI)) (ci := 4) (v := .ref h_c_figures) (C := "DirectivePrinter$Composer") (T := T_Composer) (N := 6) hx hb hts (mm_up i_Composer) hown hK hw.1 0 rfl rfl 1 (by decide) (hts _ (List.mem_cons_of_mem _ q_189)) (fun _ h9 => h9) rfl d_Composer_addBehindPoint_26 ?_
  obtain ⟨r_3, hu, hf⟩ := mm_b1_ok hf
  refine mm_ci (wr := [(h_c, .inr (4, [.ref h_c_paper, .ref h_c_figures, .int c_start, .int c_zerosAt, .int c_behind, .int c_withExponent])), (h_c_paper, .inr (0, [.ref h_c_paper_kept, .int c_paper_length])), (h_c_paper_kept, .inl (cC, c_paper_kept_n, .inl c_paper_kept))]) (va_runV (As := []) (rest := [.int fp, .int c_behind]) ⟨hx, hb, hml, hown, hts⟩ (c_Figures_lowestPower l Zo dC dI cC cI cJ cQ c_figures_digits_n c_figures_digits c_figures_count c_figures_scale h_c_figures h_c_figures_digits H.size r_3 hu) (cwV 0 hts (mm_gV q_548 q_549 q_550 q_62 q_551) rfl rfl rfl (by decide +kernel) ⟨Nat.le_of_ble_eq_true rfl, Nat.le_of_ble_eq_true rfl⟩) (mm_pv Zo.1 hK hw hZ hA [3, 4] (by decide) rfl rfl (ci := 1) (q0 := 0) rfl rfl) rfl rfl hl.1 rfl (lv_room (Nat.le_of_ble_eq_true rfl)) d_Composer_addBehindPoint_29 ⟨Nat.le_refl _, Nat.le_refl _⟩) hw hA [3, 4] [0, 1, 2] rfl rfl (by decide) (by decide) (fun H locs hw => ?_)
  have hw : mm_w (dC, dI) vwC A s [(h_c, .inr (4, [.ref h_c_paper, .ref h_c_figures, .int c_start, .int c_zerosAt, .int c_behind, .int c_withExponent])), (h_c_paper, .inr (0, [.ref h_c_paper_kept, .int c_paper_length])), (h_c_paper_kept, .inl (cC, c_paper_kept_n, .inl c_paper_kept)), (h_c_figures, .inr (1, [.ref h_c_figures_digits, .int c_figures_count, .int c_figures_scale])), (h_c_figures_digits, .inl (cI, c_figures_digits_n, .inl c_figures_digits))] H locs := hw
  refine lv_isub hx hb d_Composer_addBehindPoint_32 ?_
  refine lv_iconst (v := (1 : Int32)) hx hb d_Composer_addBehindPoint_33 (by decide) ?_
  refine lv_iadd hx hb d_Composer_addBehindPoint_34 ?_
  refine lv_iconst (v := (0 : Int32)) hx hb d_Composer_addBehindPoint_35 (by decide) ?_
  refine va_mmax hx hb (hml.trans hl.1.symm) hown (hts _ (List.mem_cons_of_mem _ q_536)) (hts _ (List.mem_cons_of_mem _ q_89)) (hts _ (List.mem_cons_of_mem _ q_56)) (hts _ (List.mem_cons_of_mem _ q_90)) (Nat.le_of_ble_eq_true rfl) (Nat.le_of_ble_eq_true rfl) (Nat.zero_le _) (Nat.zero_le _) d_Composer_addBehindPoint_36 ?_
  refine va_mmin hx hb (hml.trans hl.1.symm) hown (hts _ (List.mem_cons_of_mem _ q_552)) (hts _ (List.mem_cons_of_mem _ q_300)) (hts _ (List.mem_cons_of_mem _ q_56)) (hts _ (List.mem_cons_of_mem _ q_301)) (Nat.le_of_ble_eq_true rfl) (Nat.le_of_ble_eq_true rfl) (Nat.zero_le _) (Nat.zero_le _) d_Composer_addBehindPoint_39 ?_
  refine lv_istore_n (lv' := [(3, .int (if (if ((fp - r_3) + (1 : Int32)) < (0 : Int32) then (0 : Int32) else ((fp - r_3) + (1 : Int32))) < c_behind then (if ((fp - r_3) + (1 : Int32)) < (0 : Int32) then (0 : Int32) else ((fp - r_3) + (1 : Int32))) else c_behind)), (0, .ref h_c), (1, .int fp)]) hx hb d_Composer_addBehindPoint_42 rfl hl (by decide) rfl (fun ls hl => ?_)
  refine lv_iconst (v := (0 : Int32)) hx hb d_Composer_addBehindPoint_43 (by decide) ?_
  refine lv_istore (lv' := [(4, .int (0 : Int32)), (3, .int (if (if ((fp - r_3) + (1 : Int32)) < (0 : Int32) then (0 : Int32) else ((fp - r_3) + (1 : Int32))) < c_behind then (if ((fp - r_3) + (1 : Int32)) < (0 : Int32) then (0 : Int32) else ((fp - r_3) + (1 : Int32))) else c_behind)), (0, .ref h_c), (1, .int fp)]) hx hb d_Composer_addBehindPoint_44 hl (by decide) rfl (fun ls hl => ?_)
  exact b_Composer_addBehindPoint_46 Zo C0 N c_paper_kept_n c_figures_digits_n c_figures_digits c_figures_count c_figures_scale c_start c_zerosAt c_behind c_withExponent fp pt  out N c_paper_kept c_paper_length (if (if ((fp - r_3) + (1 : Int32)) < (0 : Int32) then (0 : Int32) else ((fp - r_3) + (1 : Int32))) < c_behind then (if ((fp - r_3) + (1 : Int32)) < (0 : Int32) then (0 : Int32) else ((fp - r_3) + (1 : Int32))) else c_behind) (0 : Int32) hf _ _ hw _ (lv_sub hl [2, 3, 1, 0] rfl)
set_option maxHeartbeats 4000000 in
set_option maxRecDepth 100000 in
theorem b_Composer_addBehindPoint_11 {h_c h_c_paper h_c_paper_kept h_c_figures h_c_figures_digits : Nat} (Zo : mm_Zx Z ad adK adV) (C0 : mm_cx (dC, dI) vwC (tyl cC cI cJ cQ) Z p s m args meth c b_Composer_addBehindPoint 5 none "DirectivePrinter$Composer" w_Composer_addBehindPoint A) (N : Nat) (c_paper_kept_n : Nat) (c_figures_digits_n : Nat) (c_figures_digits : Nat → Int32) (c_figures_count : Int32) (c_figures_scale : Int32) (c_start : Int32) (c_zerosAt : Int32) (c_behind : Int32) (c_withExponent : Int32) (fp : Int32) (pt : Int32) (out : (Nat → Int32) × Int32) : ∀ (c_paper_kept : Nat → Int32) (c_paper_length : Int32), f_Composer_addBehindPoint_11 N c_paper_kept_n c_figures_digits_n c_figures_digits c_figures_count c_figures_scale c_behind fp c_paper_kept c_paper_length = some out → ∀ (H : Heap) (locs : List Loc), mm_w (dC, dI) vwC A s [(h_c, .inr (4, [.ref h_c_paper, .ref h_c_figures, .int c_start, .int c_zerosAt, .int c_behind, .int c_withExponent])), (h_c_paper, .inr (0, [.ref h_c_paper_kept, .int c_paper_length])), (h_c_paper_kept, .inl (cC, c_paper_kept_n, .inl c_paper_kept)), (h_c_figures, .inr (1, [.ref h_c_figures_digits, .int c_figures_count, .int c_figures_scale])), (h_c_figures_digits, .inl (cI, c_figures_digits_n, .inl c_figures_digits))] H locs → ∀ (ls : Array Slot), lv_has ls 5 [(0, .ref h_c), (1, .int fp)] → W p l e r_Composer_addBehindPoint s m args below meth c H locs 0 0 (MQ below (mm_qv (dC, dI) vwC (tyl cC cI cJ cQ) A [(h_c, .inr (4, [.ref h_c_paper, .ref h_c_figures, .int c_start, .int c_zerosAt, .int c_behind, .int c_withExponent])), (h_c_paper, .inr (0, [.ref h_c_paper_kept, .int out.2])), (h_c_paper_kept, .inl (cC, c_paper_kept_n, .inl out.1)), (h_c_figures, .inr (1, [.ref h_c_figures_digits, .int c_figures_count, .int c_figures_scale])), (h_c_figures_digits, .inl (cI, c_figures_digits_n, .inl c_figures_digits))]) args s 0 0 A) (F0 m 11 ls []) := by
  obtain ⟨hx, hb, hr, hml, hown, hts, hlocks, hK, hZ, hA⟩ := id C0
  intro c_paper_kept c_paper_length hf H locs hw ls hl
  unfold f_Composer_addBehindPoint_11 at hf
  refine lv_aload_n hx hb d_Composer_addBehindPoint_11 rfl (lv_at hl 0 rfl) ?_
  refine va_get (D := (dC, dI)) (ci := 4) (v := .ref h_c_paper) (C := "DirectivePrinter$Composer") (T := T_Composer) (N := 6) hx hb hts (mm_up i_Composer) hown hK hw.1 0 rfl rfl 0 (by decide) (hts _ (List.mem_cons_of_mem _ q_187)) (fun _ h9 => h9) rfl d_Composer_addBehindPoint_12 ?_
  refine lv_bipush (v := (46 : Int32)) hx hb d_Composer_addBehindPoint_15 (by decide) ?_
  obtain ⟨o_1, o_2, hu, hf⟩ := mm_b2_ok hf
  refine mm_cv (wr := [(h_c, .inr (4, [.ref h_c_paper, .ref h_c_figures, .int c_start, .int c_zerosAt, .int c_behind, .int c_withExponent])), (h_c_figures, .inr (1, [.ref h_c_figures_digits, .int c_figures_count, .int c_figures_scale])), (h_c_figures_digits, .inl (cI, c_figures_digits_n, .inl c_figures_digits))]) (va_runV (As := [.int (46 : Int32)]) (rest := []) ⟨hx, hb, hml, hown, hts⟩ (c_Row_add l Zo dC dI cC cI cJ cQ c_paper_kept_n c_paper_kept c_paper_length (46 : Int32) h_c_paper h_c_paper_kept H.size (o_1, o_2) hu) (cwV 1 hts (mm_gV q_458 q_459 q_460 q_55 q_461) rfl rfl rfl (by decide +kernel) ⟨Nat.le_of_ble_eq_true rfl, Nat.le_of_ble_eq_true rfl⟩) (mm_pv Zo.1 hK hw hZ hA [1, 2] (by decide) rfl rfl (ci := 0) (q0 := 0) rfl rfl) rfl rfl hl.1 rfl (lv_room (Nat.le_of_ble_eq_true rfl)) d_Composer_addBehindPoint_17 ⟨Nat.le_refl _, Nat.le_refl _⟩) hw hA [1, 2] [0, 3, 4] rfl rfl (by decide) (by decide) (fun H locs hw => ?_)
  have hw : mm_w (dC, dI) vwC A s [(h_c, .inr (4, [.ref h_c_paper, .ref h_c_figures, .int c_start, .int c_zerosAt, .int c_behind, .int c_withExponent])), (h_c_figures, .inr (1, [.ref h_c_figures_digits, .int c_figures_count, .int c_figures_scale])), (h_c_figures_digits, .inl (cI, c_figures_digits_n, .inl c_figures_digits)), (h_c_paper, .inr (0, [.ref h_c_paper_kept, .int o_2])), (h_c_paper_kept, .inl (cC, c_paper_kept_n, .inl o_1))] H locs := hw
  exact b_Composer_addBehindPoint_20 Zo C0 N c_paper_kept_n c_figures_digits_n c_figures_digits c_figures_count c_figures_scale c_start c_zerosAt c_behind c_withExponent fp pt  out o_1 o_2 hf _ _ (mm_wsub hw [0, 3, 4, 1, 2] (by decide) rfl rfl) _ hl
set_option maxHeartbeats 4000000 in
set_option maxRecDepth 100000 in
theorem c_Composer_addBehindPoint (l : Launch) {Z : (Nat → Prop) → State → Heap → Prop} {ad adK adV : Nat → Nat} (Zo : mm_Zx Z ad adK adV) (dC : Nat → ClassId) (dI : Nat → Nat → Nat) (cC cI cJ cQ : ClassId) (N : Nat) (c_paper_kept_n : Nat) (c_paper_kept : Nat → Int32) (c_paper_length : Int32) (c_figures_digits_n : Nat) (c_figures_digits : Nat → Int32) (c_figures_count : Int32) (c_figures_scale : Int32) (c_start : Int32) (c_zerosAt : Int32) (c_behind : Int32) (c_withExponent : Int32) (fp : Int32) (pt : Int32) (h_c h_c_paper h_c_paper_kept h_c_figures h_c_figures_digits : Nat) (sz : Nat) (out : (Nat → Int32) × Int32) (hf : f_Composer_addBehindPoint N c_paper_kept_n c_paper_kept c_paper_length c_figures_digits_n c_figures_digits c_figures_count c_figures_scale c_behind fp pt = some out) : Met l y_Composer_addBehindPoint w_Composer_addBehindPoint r_Composer_addBehindPoint (mm_pre (dC, dI) vwC (tyl cC cI cJ cQ) Z [(h_c, .inr (4, [.ref h_c_paper, .ref h_c_figures, .int c_start, .int c_zerosAt, .int c_behind, .int c_withExponent])), (h_c_paper, .inr (0, [.ref h_c_paper_kept, .int c_paper_length])), (h_c_paper_kept, .inl (cC, c_paper_kept_n, .inl c_paper_kept)), (h_c_figures, .inr (1, [.ref h_c_figures_digits, .int c_figures_count, .int c_figures_scale])), (h_c_figures_digits, .inl (cI, c_figures_digits_n, .inl c_figures_digits))] sz [.ref h_c, .int fp, .int pt]) (mm_qv (dC, dI) vwC (tyl cC cI cJ cQ) (va_A [(h_c, .inr (4, [.ref h_c_paper, .ref h_c_figures, .int c_start, .int c_zerosAt, .int c_behind, .int c_withExponent])), (h_c_paper, .inr (0, [.ref h_c_paper_kept, .int c_paper_length])), (h_c_paper_kept, .inl (cC, c_paper_kept_n, .inl c_paper_kept)), (h_c_figures, .inr (1, [.ref h_c_figures_digits, .int c_figures_count, .int c_figures_scale])), (h_c_figures_digits, .inl (cI, c_figures_digits_n, .inl c_figures_digits))] sz) [(h_c, .inr (4, [.ref h_c_paper, .ref h_c_figures, .int c_start, .int c_zerosAt, .int c_behind, .int c_withExponent])), (h_c_paper, .inr (0, [.ref h_c_paper_kept, .int out.2])), (h_c_paper_kept, .inl (cC, c_paper_kept_n, .inl out.1)), (h_c_figures, .inr (1, [.ref h_c_figures_digits, .int c_figures_count, .int c_figures_scale])), (h_c_figures_digits, .inl (cI, c_figures_digits_n, .inl c_figures_digits))]) 0 0 (va_A [(h_c, .inr (4, [.ref h_c_paper, .ref h_c_figures, .int c_start, .int c_zerosAt, .int c_behind, .int c_withExponent])), (h_c_paper, .inr (0, [.ref h_c_paper_kept, .int c_paper_length])), (h_c_paper_kept, .inl (cC, c_paper_kept_n, .inl c_paper_kept)), (h_c_figures, .inr (1, [.ref h_c_figures_digits, .int c_figures_count, .int c_figures_scale])), (h_c_figures_digits, .inl (cI, c_figures_digits_n, .inl c_figures_digits))] sz) := by
  refine mm_of (own := "DirectivePrinter$Composer") (cc := b_Composer_addBehindPoint) (maxL := 5) (ret := none) (by decide) rfl rfl ?_
  intro p e s m below meth c hsz C0 hw hname
  generalize (va_A [(h_c, .inr (4, [.ref h_c_paper, .ref h_c_figures, .int c_start, .int c_zerosAt, .int c_behind, .int c_withExponent])), (h_c_paper, .inr (0, [.ref h_c_paper_kept, .int c_paper_length])), (h_c_paper_kept, .inl (cC, c_paper_kept_n, .inl c_paper_kept)), (h_c_figures, .inr (1, [.ref h_c_figures_digits, .int c_figures_count, .int c_figures_scale])), (h_c_figures_digits, .inl (cI, c_figures_digits_n, .inl c_figures_digits))] sz) = A at C0 hw ⊢
  have hl := lv_entry ([.ref h_c, .int fp, .int pt]) (n := 5) (Nat.le_of_ble_eq_true rfl)
  rw [lg_entry_eq]
  generalize (lg_sl ([.ref h_c, .int fp, .int pt]) ++ List.replicate (5 - (lg_sl ([.ref h_c, .int fp, .int pt])).length) Slot.unset).toArray = ls at hl ⊢
  have hl : lv_has ls 5 [(0, .ref h_c), (1, .int fp), (2, .int pt)] := hl
  obtain ⟨hx, hb, hr, hml, hown, hts, hlocks, hK, hZ, hA⟩ := id C0
  generalize s.heap = H at hw ⊢
  unfold f_Composer_addBehindPoint at hf
  refine lv_aload_n hx hb d_Composer_addBehindPoint_0 rfl (lv_at hl 0 rfl) ?_
  refine va_get (D := (dC, dI)) (ci := 4) (v := .int c_behind) (C := "DirectivePrinter$Composer") (T := T_Composer) (N := 6) hx hb hts (mm_up i_Composer) hown hK hw.1 0 rfl rfl 4 (by decide) (hts _ (List.mem_cons_of_mem _ q_192)) (fun _ h9 => h9) rfl d_Composer_addBehindPoint_1 ?_
  refine lv_if_gt (tgt := 11) hx hb d_Composer_addBehindPoint_4 (by decide) (fun hc => ?_) (fun hc => ?_)
  · replace hf := mm_ip hc hf
    exact b_Composer_addBehindPoint_11 Zo C0 N c_paper_kept_n c_figures_digits_n c_figures_digits c_figures_count c_figures_scale c_start c_zerosAt c_behind c_withExponent fp pt  out c_paper_kept c_paper_length hf _ _ hw _ (lv_sub hl [0, 1] rfl)
  · replace hf := mm_in hc hf
    refine lv_iload_n hx hb d_Composer_addBehindPoint_7 rfl (lv_at hl 2 rfl) ?_
    refine lv_if_eq (tgt := 20) hx hb d_Composer_addBehindPoint_8 (by decide) (fun hc => ?_) (fun hc => ?_)
    · replace hf := mm_ip hc hf
      exact b_Composer_addBehindPoint_20 Zo C0 N c_paper_kept_n c_figures_digits_n c_figures_digits c_figures_count c_figures_scale c_start c_zerosAt c_behind c_withExponent fp pt  out c_paper_kept c_paper_length hf _ _ hw _ (lv_sub hl [0, 1] rfl)
    · replace hf := mm_in hc hf
      exact b_Composer_addBehindPoint_11 Zo C0 N c_paper_kept_n c_figures_digits_n c_figures_digits c_figures_count c_figures_scale c_start c_zerosAt c_behind c_withExponent fp pt  out c_paper_kept c_paper_length hf _ _ hw _ (lv_sub hl [0, 1] rfl)
/-! DirectivePrinter$Composer.addFixed(ZZ)V -/
def f_Composer_addFixed_12 (N : Nat) (c_paper_kept_n : Nat) (c_figures_digits_n : Nat) (c_figures_digits : Nat → Int32) (c_figures_count : Int32) (c_figures_scale : Int32) (c_behind : Int32) (gr : Int32) (pt : Int32) : Nat → (Nat → Int32) → Int32 → Int32 → Option ((Nat → Int32) × Int32)
  | 0, _, _, _ => none
  | fu + 1, c_paper_kept, c_paper_length, x3 => (if x3 < 0 then mm_b2 (f_Composer_addBehindPoint N c_paper_kept_n c_paper_kept c_paper_length c_figures_digits_n c_figures_digits c_figures_count c_figures_scale c_behind (-1 : Int32) pt) (fun o_2 o_3 => some (o_2, o_3)) else mm_b1 (f_Figures_sign c_figures_digits_n c_figures_digits c_figures_count c_figures_scale x3) (fun r_4 => mm_b2 (f_Row_add c_paper_kept_n c_paper_kept c_paper_length r_4) (fun o_5 o_6 => (if gr = 0 then f_Composer_addFixed_12 N c_paper_kept_n c_figures_digits_n c_figures_digits c_figures_count c_figures_scale c_behind gr pt fu o_5 o_6 (x3 + (-1 : Int32)) else (if x3 ≤ 0 then f_Composer_addFixed_12 N c_paper_kept_n c_figures_digits_n c_figures_digits c_figures_count c_figures_scale c_behind gr pt fu o_5 o_6 (x3 + (-1 : Int32)) else (if (x3 - x3 / (3 : Int32) * (3 : Int32)) = 0 then mm_b2 (f_Row_add c_paper_kept_n o_5 o_6 (44 : Int32)) (fun o_7 o_8 => f_Composer_addFixed_12 N c_paper_kept_n c_figures_digits_n c_figures_digits c_figures_count c_figures_scale c_behind gr pt fu o_7 o_8 (x3 + (-1 : Int32))) else f_Composer_addFixed_12 N c_paper_kept_n c_figures_digits_n c_figures_digits c_figures_count c_figures_scale c_behind gr pt fu o_5 o_6 (x3 + (-1 : Int32))))))))
def f_Composer_addFixed (N : Nat) (c_paper_kept_n : Nat) (c_paper_kept : Nat → Int32) (c_paper_length : Int32) (c_figures_digits_n : Nat) (c_figures_digits : Nat → Int32) (c_figures_count : Int32) (c_figures_scale : Int32) (c_behind : Int32) (gr : Int32) (pt : Int32) : Option ((Nat → Int32) × Int32) := mm_b1 (f_Figures_top c_figures_count c_figures_scale) (fun r_1 => f_Composer_addFixed_12 N c_paper_kept_n c_figures_digits_n c_figures_digits c_figures_count c_figures_scale c_behind gr pt N c_paper_kept c_paper_length (if r_1 < (0 : Int32) then (0 : Int32) else r_1))
abbrev r_Composer_addFixed : Room := { frames := 6, cells := 0, slots := 0, locals := 132 }
set_option maxHeartbeats 4000000 in
set_option maxRecDepth 100000 in
theorem b_Composer_addFixed_12 {h_c h_c_paper h_c_paper_kept h_c_figures h_c_figures_digits : Nat} (Zo : mm_Zx Z ad adK adV) (C0 : mm_cx (dC, dI) vwC (tyl cC cI cJ cQ) Z p s m args meth c b_Composer_addFixed 4 none "DirectivePrinter$Composer" w_Composer_addFixed A) (N : Nat) (c_paper_kept_n : Nat) (c_figures_digits_n : Nat) (c_figures_digits : Nat → Int32) (c_figures_count : Int32) (c_figures_scale : Int32) (c_start : Int32) (c_zerosAt : Int32) (c_behind : Int32) (c_withExponent : Int32) (gr : Int32) (pt : Int32) (out : (Nat → Int32) × Int32) : ∀ (fuel : Nat) (c_paper_kept : Nat → Int32) (c_paper_length : Int32) (x3 : Int32), f_Composer_addFixed_12 N c_paper_kept_n c_figures_digits_n c_figures_digits c_figures_count c_figures_scale c_behind gr pt fuel c_paper_kept c_paper_length x3 = some out → ∀ (H : Heap) (locs : List Loc), mm_w (dC, dI) vwC A s [(h_c, .inr (4, [.ref h_c_paper, .ref h_c_figures, .int c_start, .int c_zerosAt, .int c_behind, .int c_withExponent])), (h_c_paper, .inr (0, [.ref h_c_paper_kept, .int c_paper_length])), (h_c_paper_kept, .inl (cC, c_paper_kept_n, .inl c_paper_kept)), (h_c_figures, .inr (1, [.ref h_c_figures_digits, .int c_figures_count, .int c_figures_scale])), (h_c_figures_digits, .inl (cI, c_figures_digits_n, .inl c_figures_digits))] H locs → ∀ (ls : Array Slot), lv_has ls 4 [(0, .ref h_c), (1, .int gr), (2, .int pt), (3, .int x3)] → W p l e r_Composer_addFixed s m args below meth c H locs 0 0 (MQ below (mm_qv (dC, dI) vwC (tyl cC cI cJ cQ) A [(h_c, .inr (4, [.ref h_c_paper, .ref h_c_figures, .int c_start, .int c_zerosAt, .int c_behind, .int c_withExponent])), (h_c_paper, .inr (0, [.ref h_c_paper_kept, .int out.2])), (h_c_paper_kept, .inl (cC, c_paper_kept_n, .inl out.1)), (h_c_figures, .inr (1, [.ref h_c_figures_digits, .int c_figures_count, .int c_figures_scale])), (h_c_figures_digits, .inl (cI, c_figures_digits_n, .inl c_figures_digits))]) args s 0 0 A) (F0 m 12 ls []) := by
  obtain ⟨hx, hb, hr, hml, hown, hts, hlocks, hK, hZ, hA⟩ := id C0
  intro fuel
  induction fuel with
  | zero =>
    intro c_paper_kept c_paper_length x3 hf
    cases (show (none : Option ((Nat → Int32) × Int32)) = some out from hf)
  | succ fu ih =>
    intro c_paper_kept c_paper_length x3 hf H locs hw ls hl
    unfold f_Composer_addFixed_12 at hf
    refine lv_iload_n hx hb d_Composer_addFixed_12 rfl (lv_at hl 3 rfl) ?_
    refine lv_if_lt (tgt := 60) hx hb d_Composer_addFixed_13 (by decide) (fun hc => ?_) (fun hc => ?_)
    · replace hf := mm_ip hc hf
      refine lv_aload_n hx hb d_Composer_addFixed_60 rfl (lv_at hl 0 rfl) ?_
      refine lv_iconst (v := (-1 : Int32)) hx hb d_Composer_addFixed_61 (by decide) ?_
      refine lv_iload_n hx hb d_Composer_addFixed_62 rfl (lv_at hl 2 rfl) ?_
      obtain ⟨o_2, o_3, hu, hf⟩ := mm_b2_ok hf
      refine mm_cv (wr := []) (va_runV (As := [.int (-1 : Int32), .int pt]) (rest := []) ⟨hx, hb, hml, hown, hts⟩ (c_Composer_addBehindPoint l Zo dC dI cC cI cJ cQ N c_paper_kept_n c_paper_kept c_paper_length c_figures_digits_n c_figures_digits c_figures_count c_figures_scale c_start c_zerosAt c_behind c_withExponent (-1 : Int32) pt h_c h_c_paper h_c_paper_kept h_c_figures h_c_figures_digits H.size (o_2, o_3) hu) (cwV 2 hts (mm_gV q_544 q_546 q_16 q_61 q_547) rfl rfl rfl (by decide +kernel) ⟨Nat.le_of_ble_eq_true rfl, Nat.le_of_ble_eq_true rfl⟩) (mm_pv Zo.1 hK hw hZ hA [0, 1, 2, 3, 4] (by decide) rfl rfl (ci := 4) (q0 := 0) rfl rfl) rfl rfl hl.1 rfl (lv_room (Nat.le_of_ble_eq_true rfl)) d_Composer_addFixed_63 ⟨Nat.le_refl _, Nat.le_refl _⟩) hw hA [0, 1, 2, 3, 4] [] rfl rfl (by decide) (by decide) (fun H locs hw => ?_)
      have hw : mm_w (dC, dI) vwC A s [(h_c, .inr (4, [.ref h_c_paper, .ref h_c_figures, .int c_start, .int c_zerosAt, .int c_behind, .int c_withExponent])), (h_c_paper, .inr (0, [.ref h_c_paper_kept, .int o_3])), (h_c_paper_kept, .inl (cC, c_paper_kept_n, .inl o_2)), (h_c_figures, .inr (1, [.ref h_c_figures_digits, .int c_figures_count, .int c_figures_scale])), (h_c_figures_digits, .inl (cI, c_figures_digits_n, .inl c_figures_digits))] H locs := hw
      obtain rfl := Option.some.inj hf
      exact mm_vret hx hb hr hlocks hK (mm_wsub hw [0, 1, 2, 3, 4] (by decide) rfl rfl) d_Composer_addFixed_66
    · replace hf := mm_in hc hf
      refine lv_aload_n hx hb d_Composer_addFixed_16 rfl (lv_at hl 0 rfl) ?_
      refine va_get (D := (dC, dI)) (ci := 4) (v := .ref h_c_paper) (C := "DirectivePrinter$Composer") (T := T_Composer) (N := 6) hx hb hts (mm_up i_Composer) hown hK hw.1 0 rfl rfl 0 (by decide) (hts _ (List.mem_cons_of_mem _ q_187)) (fun _ h9 => h9) rfl d_Composer_addFixed_17 ?_
      refine lv_aload_n hx hb d_Composer_addFixed_20 rfl (lv_at hl 0 rfl) ?_
      refine va_get (D := (dC, dI)) (ci := 4) (v := .ref h_c_figures) (C := "DirectivePrinter$Composer") (T := T_Composer) (N := 6) hx hb hts (mm_up i_Composer) hown hK hw.1 0 rfl rfl 1 (by decide) (hts _ (List.mem_cons_of_mem _ q_189)) (fun _ h9 => h9) rfl d_Composer_addFixed_21 ?_
      refine lv_iload_n hx hb d_Composer_addFixed_24 rfl (lv_at hl 3 rfl) ?_
      obtain ⟨r_4, hu, hf⟩ := mm_b1_ok hf
      refine mm_ci (wr := [(h_c, .inr (4, [.ref h_c_paper, .ref h_c_figures, .int c_start, .int c_zerosAt, .int c_behind, .int c_withExponent])), (h_c_paper, .inr (0, [.ref h_c_paper_kept, .int c_paper_length])), (h_c_paper_kept, .inl (cC, c_paper_kept_n, .inl c_paper_kept))]) (va_runV (As := [.int x3]) (rest := [.ref h_c_paper]) ⟨hx, hb, hml, hown, hts⟩ (c_Figures_sign l Zo dC dI cC cI cJ cQ c_figures_digits_n c_figures_digits c_figures_count c_figures_scale x3 h_c_figures h_c_figures_digits H.size r_4 hu) (cwV 1 hts (mm_gV q_537 q_538 q_539 q_62 q_540) rfl rfl rfl (by decide +kernel) ⟨Nat.le_of_ble_eq_true rfl, Nat.le_of_ble_eq_true rfl⟩) (mm_pv Zo.1 hK hw hZ hA [3, 4] (by decide) rfl rfl (ci := 1) (q0 := 0) rfl rfl) rfl rfl hl.1 rfl (lv_room (Nat.le_of_ble_eq_true rfl)) d_Composer_addFixed_25 ⟨Nat.le_refl _, Nat.le_refl _⟩) hw hA [3, 4] [0, 1, 2] rfl rfl (by decide) (by decide) (fun H locs hw => ?_)
      have hw : mm_w (dC, dI) vwC A s [(h_c, .inr (4, [.ref h_c_paper, .ref h_c_figures, .int c_start, .int c_zerosAt, .int c_behind, .int c_withExponent])), (h_c_paper, .inr (0, [.ref h_c_paper_kept, .int c_paper_length])), (h_c_paper_kept, .inl (cC, c_paper_kept_n, .inl c_paper_kept)), (h_c_figures, .inr (1, [.ref h_c_figures_digits, .int c_figures_count, .int c_figures_scale])), (h_c_figures_digits, .inl (cI, c_figures_digits_n, .inl c_figures_digits))] H locs := hw
      obtain ⟨o_5, o_6, hu, hf⟩ := mm_b2_ok hf
      refine mm_cv (wr := [(h_c, .inr (4, [.ref h_c_paper, .ref h_c_figures, .int c_start, .int c_zerosAt, .int c_behind, .int c_withExponent])), (h_c_figures, .inr (1, [.ref h_c_figures_digits, .int c_figures_count, .int c_figures_scale])), (h_c_figures_digits, .inl (cI, c_figures_digits_n, .inl c_figures_digits))]) (va_runV (As := [.int r_4]) (rest := []) ⟨hx, hb, hml, hown, hts⟩ (c_Row_add l Zo dC dI cC cI cJ cQ c_paper_kept_n c_paper_kept c_paper_length r_4 h_c_paper h_c_paper_kept H.size (o_5, o_6) hu) (cwV 1 hts (mm_gV q_458 q_459 q_460 q_55 q_461) rfl rfl rfl (by decide +kernel) ⟨Nat.le_of_ble_eq_true rfl, Nat.le_of_ble_eq_true rfl⟩) (mm_pv Zo.1 hK hw hZ hA [1, 2] (by decide) rfl rfl (ci := 0) (q0 := 0) rfl rfl) rfl rfl hl.1 rfl (lv_room (Nat.le_of_ble_eq_true rfl)) d_Composer_addFixed_28 ⟨Nat.le_refl _, Nat.le_refl _⟩) hw hA [1, 2] [0, 3, 4] rfl rfl (by decide) (by decide) (fun H locs hw => ?_)
      have hw : mm_w (dC, dI) vwC A s [(h_c, .inr (4, [.ref h_c_paper, .ref h_c_figures, .int c_start, .int c_zerosAt, .int c_behind, .int c_withExponent])), (h_c_figures, .inr (1, [.ref h_c_figures_digits, .int c_figures_count, .int c_figures_scale])), (h_c_figures_digits, .inl (cI, c_figures_digits_n, .inl c_figures_digits)), (h_c_paper, .inr (0, [.ref h_c_paper_kept, .int o_6])), (h_c_paper_kept, .inl (cC, c_paper_kept_n, .inl o_5))] H locs := hw
      refine lv_iload_n hx hb d_Composer_addFixed_31 rfl (lv_at hl 1 rfl) ?_
      refine lv_if_eq (tgt := 54) hx hb d_Composer_addFixed_32 (by decide) (fun hc => ?_) (fun hc => ?_)
      · replace hf := mm_ip hc hf
        refine lv_iinc (v := x3 + (-1 : Int32)) (lv' := [(3, .int (x3 + (-1 : Int32))), (0, .ref h_c), (1, .int gr), (2, .int pt)]) hx hb d_Composer_addFixed_54 hl (k := 3) rfl rfl (by decide) rfl (fun ls hl => ?_)
        refine lv_goto (tgt := 12) hx hb d_Composer_addFixed_57 (by decide) ?_
        exact ih o_5 o_6 (x3 + (-1 : Int32)) hf _ _ (mm_wsub hw [0, 3, 4, 1, 2] (by decide) rfl rfl) _ (lv_sub hl [1, 2, 3, 0] rfl)
      · replace hf := mm_in hc hf
        refine lv_iload_n hx hb d_Composer_addFixed_35 rfl (lv_at hl 3 rfl) ?_
        refine lv_if_le (tgt := 54) hx hb d_Composer_addFixed_36 (by decide) (fun hc => ?_) (fun hc => ?_)
        · replace hf := mm_ip hc hf
          refine lv_iinc (v := x3 + (-1 : Int32)) (lv' := [(3, .int (x3 + (-1 : Int32))), (0, .ref h_c), (1, .int gr), (2, .int pt)]) hx hb d_Composer_addFixed_54 hl (k := 3) rfl rfl (by decide) rfl (fun ls hl => ?_)
          refine lv_goto (tgt := 12) hx hb d_Composer_addFixed_57 (by decide) ?_
          exact ih o_5 o_6 (x3 + (-1 : Int32)) hf _ _ (mm_wsub hw [0, 3, 4, 1, 2] (by decide) rfl rfl) _ (lv_sub hl [1, 2, 3, 0] rfl)
        · replace hf := mm_in hc hf
          refine lv_iload_n hx hb d_Composer_addFixed_39 rfl (lv_at hl 3 rfl) ?_
          refine lv_iconst (v := (3 : Int32)) hx hb d_Composer_addFixed_40 (by decide) ?_
          refine lv_irem hx hb d_Composer_addFixed_41 (by decide) ?_
          refine lv_if_ne (tgt := 54) hx hb d_Composer_addFixed_42 (by decide) (fun hc => ?_) (fun hc => ?_)
          · replace hf := mm_in hc hf
            refine lv_iinc (v := x3 + (-1 : Int32)) (lv' := [(3, .int (x3 + (-1 : Int32))), (0, .ref h_c), (1, .int gr), (2, .int pt)]) hx hb d_Composer_addFixed_54 hl (k := 3) rfl rfl (by decide) rfl (fun ls hl => ?_)
            refine lv_goto (tgt := 12) hx hb d_Composer_addFixed_57 (by decide) ?_
            exact ih o_5 o_6 (x3 + (-1 : Int32)) hf _ _ (mm_wsub hw [0, 3, 4, 1, 2] (by decide) rfl rfl) _ (lv_sub hl [1, 2, 3, 0] rfl)
          · replace hf := mm_ip hc hf
            refine lv_aload_n hx hb d_Composer_addFixed_45 rfl (lv_at hl 0 rfl) ?_
            refine va_get (D := (dC, dI)) (ci := 4) (v := .ref h_c_paper) (C := "DirectivePrinter$Composer") (T := T_Composer) (N := 6) hx hb hts (mm_up i_Composer) hown hK hw.1 0 rfl rfl 0 (by decide) (hts _ (List.mem_cons_of_mem _ q_187)) (fun _ h9 => h9) rfl d_Composer_addFixed_46 ?_
            refine lv_bipush (v := (44 : Int32)) hx hb d_Composer_addFixed_49 (by decide) ?_
            obtain ⟨o_7, o_8, hu, hf⟩ := mm_b2_ok hf
            refine mm_cv (wr := [(h_c, .inr (4, [.ref h_c_paper, .ref h_c_figures, .int c_start, .int c_zerosAt, .int c_behind, .int c_withExponent])), (h_c_figures, .inr (1, [.ref h_c_figures_digits, .int c_figures_count, .int c_figures_scale])), (h_c_figures_digits, .inl (cI, c_figures_digits_n, .inl c_figures_digits))]) (va_runV (As := [.int (44 : Int32)]) (rest := []) ⟨hx, hb, hml, hown, hts⟩ (c_Row_add l Zo dC dI cC cI cJ cQ c_paper_kept_n o_5 o_6 (44 : Int32) h_c_paper h_c_paper_kept H.size (o_7, o_8) hu) (cwV 1 hts (mm_gV q_458 q_459 q_460 q_55 q_461) rfl rfl rfl (by decide +kernel) ⟨Nat.le_of_ble_eq_true rfl, Nat.le_of_ble_eq_true rfl⟩) (mm_pv Zo.1 hK hw hZ hA [3, 4] (by decide) rfl rfl (ci := 0) (q0 := 0) rfl rfl) rfl rfl hl.1 rfl (lv_room (Nat.le_of_ble_eq_true rfl)) d_Composer_addFixed_51 ⟨Nat.le_refl _, Nat.le_refl _⟩) hw hA [3, 4] [0, 1, 2] rfl rfl (by decide) (by decide) (fun H locs hw => ?_)
            have hw : mm_w (dC, dI) vwC A s [(h_c, .inr (4, [.ref h_c_paper, .ref h_c_figures, .int c_start, .int c_zerosAt, .int c_behind, .int c_withExponent])), (h_c_figures, .inr (1, [.ref h_c_figures_digits, .int c_figures_count, .int c_figures_scale])), (h_c_figures_digits, .inl (cI, c_figures_digits_n, .inl c_figures_digits)), (h_c_paper, .inr (0, [.ref h_c_paper_kept, .int o_8])), (h_c_paper_kept, .inl (cC, c_paper_kept_n, .inl o_7))] H locs := hw
            refine lv_iinc (v := x3 + (-1 : Int32)) (lv' := [(3, .int (x3 + (-1 : Int32))), (0, .ref h_c), (1, .int gr), (2, .int pt)]) hx hb d_Composer_addFixed_54 hl (k := 3) rfl rfl (by decide) rfl (fun ls hl => ?_)
            refine lv_goto (tgt := 12) hx hb d_Composer_addFixed_57 (by decide) ?_
            exact ih o_7 o_8 (x3 + (-1 : Int32)) hf _ _ (mm_wsub hw [0, 3, 4, 1, 2] (by decide) rfl rfl) _ (lv_sub hl [1, 2, 3, 0] rfl)
set_option maxHeartbeats 4000000 in
set_option maxRecDepth 100000 in
theorem c_Composer_addFixed (l : Launch) {Z : (Nat → Prop) → State → Heap → Prop} {ad adK adV : Nat → Nat} (Zo : mm_Zx Z ad adK adV) (dC : Nat → ClassId) (dI : Nat → Nat → Nat) (cC cI cJ cQ : ClassId) (N : Nat) (c_paper_kept_n : Nat) (c_paper_kept : Nat → Int32) (c_paper_length : Int32) (c_figures_digits_n : Nat) (c_figures_digits : Nat → Int32) (c_figures_count : Int32) (c_figures_scale : Int32) (c_start : Int32) (c_zerosAt : Int32) (c_behind : Int32) (c_withExponent : Int32) (gr : Int32) (pt : Int32) (h_c h_c_paper h_c_paper_kept h_c_figures h_c_figures_digits : Nat) (sz : Nat) (out : (Nat → Int32) × Int32) (hf : f_Composer_addFixed N c_paper_kept_n c_paper_kept c_paper_length c_figures_digits_n c_figures_digits c_figures_count c_figures_scale c_behind gr pt = some out) : Met l y_Composer_addFixed w_Composer_addFixed r_Composer_addFixed (mm_pre (dC, dI) vwC (tyl cC cI cJ cQ) Z [(h_c, .inr (4, [.ref h_c_paper, .ref h_c_figures, .int c_start, .int c_zerosAt, .int c_behind, .int c_withExponent])), (h_c_paper, .inr (0, [.ref h_c_paper_kept, .int c_paper_length])), (h_c_paper_kept, .inl (cC, c_paper_kept_n, .inl c_paper_kept)), (h_c_figures, .inr (1, [.ref h_c_figures_digits, .int c_figures_count, .int c_figures_scale])), (h_c_figures_digits, .inl (cI, c_figures_digits_n, .inl c_figures_digits))] sz [.ref h_c, .int gr, .int pt]) (mm_qv (dC, dI) vwC (tyl cC cI cJ cQ) (va_A [(h_c, .inr (4, [.ref h_c_paper, .ref h_c_figures, .int c_start, .int c_zerosAt, .int c_behind, .int c_withExponent])), (h_c_paper, .inr (0, [.ref h_c_paper_kept, .int c_paper_length])), (h_c_paper_kept, .inl (cC, c_paper_kept_n, .inl c_paper_kept)), (h_c_figures, .inr (1, [.ref h_c_figures_digits, .int c_figures_count, .int c_figures_scale])), (h_c_figures_digits, .inl (cI, c_figures_digits_n, .inl c_figures_digits))] sz) [(h_c, .inr (4, [.ref h_c_paper, .ref h_c_figures, .int c_start, .int c_zerosAt, .int c_behind, .int c_withExponent])), (h_c_paper, .inr (0, [.ref h_c_paper_kept, .int out.2])), (h_c_paper_kept, .inl (cC, c_paper_kept_n, .inl out.1)), (h_c_figures, .inr (1, [.ref h_c_figures_digits, .int c_figures_count, .int c_figures_scale])), (h_c_figures_digits, .inl (cI, c_figures_digits_n, .inl c_figures_digits))]) 0 0 (va_A [(h_c, .inr (4, [.ref h_c_paper, .ref h_c_figures, .int c_start, .int c_zerosAt, .int c_behind, .int c_withExponent])), (h_c_paper, .inr (0, [.ref h_c_paper_kept, .int c_paper_length])), (h_c_paper_kept, .inl (cC, c_paper_kept_n, .inl c_paper_kept)), (h_c_figures, .inr (1, [.ref h_c_figures_digits, .int c_figures_count, .int c_figures_scale])), (h_c_figures_digits, .inl (cI, c_figures_digits_n, .inl c_figures_digits))] sz) := by
  refine mm_of (own := "DirectivePrinter$Composer") (cc := b_Composer_addFixed) (maxL := 4) (ret := none) (by decide) rfl rfl ?_
  intro p e s m below meth c hsz C0 hw hname
  generalize (va_A [(h_c, .inr (4, [.ref h_c_paper, .ref h_c_figures, .int c_start, .int c_zerosAt, .int c_behind, .int c_withExponent])), (h_c_paper, .inr (0, [.ref h_c_paper_kept, .int c_paper_length])), (h_c_paper_kept, .inl (cC, c_paper_kept_n, .inl c_paper_kept)), (h_c_figures, .inr (1, [.ref h_c_figures_digits, .int c_figures_count, .int c_figures_scale])), (h_c_figures_digits, .inl (cI, c_figures_digits_n, .inl c_figures_digits))] sz) = A at C0 hw ⊢
  have hl := lv_entry ([.ref h_c, .int gr, .int pt]) (n := 4) (Nat.le_of_ble_eq_true rfl)
  rw [lg_entry_eq]
  generalize (lg_sl ([.ref h_c, .int gr, .int pt]) ++ List.replicate (4 - (lg_sl ([.ref h_c, .int gr, .int pt])).length) Slot.unset).toArray = ls at hl ⊢
  have hl : lv_has ls 4 [(0, .ref h_c), (1, .int gr), (2, .int pt)] := hl
  obtain ⟨hx, hb, hr, hml, hown, hts, hlocks, hK, hZ, hA⟩ := id C0
  generalize s.heap = H at hw ⊢
  unfold f_Composer_addFixed at hf
  refine lv_aload_n hx hb d_Composer_addFixed_0 rfl (lv_at hl 0 rfl) ?_
  refine va_get (D := (dC, dI)) (ci := 4) (v := .ref h_c_figures) (C := "DirectivePrinter$Composer") (T := T_Composer) (N := 6) hx hb hts (mm_up i_Composer) hown hK hw.1 0 rfl rfl 1 (by decide) (hts _ (List.mem_cons_of_mem _ q_189)) (fun _ h9 => h9) rfl d_Composer_addFixed_1 ?_
  obtain ⟨r_1, hu, hf⟩ := mm_b1_ok hf
  refine mm_ci (wr := [(h_c, .inr (4, [.ref h_c_paper, .ref h_c_figures, .int c_start, .int c_zerosAt, .int c_behind, .int c_withExponent])), (h_c_paper, .inr (0, [.ref h_c_paper_kept, .int c_paper_length])), (h_c_paper_kept, .inl (cC, c_paper_kept_n, .inl c_paper_kept))]) (va_runV (As := []) (rest := []) ⟨hx, hb, hml, hown, hts⟩ (c_Figures_top l Zo dC dI cC cI cJ cQ c_figures_digits_n c_figures_digits c_figures_count c_figures_scale h_c_figures h_c_figures_digits H.size r_1 hu) (cwV 0 hts (mm_gV q_532 q_533 q_534 q_62 q_535) rfl rfl rfl (by decide +kernel) ⟨Nat.le_of_ble_eq_true rfl, Nat.le_of_ble_eq_true rfl⟩) (mm_pv Zo.1 hK hw hZ hA [3, 4] (by decide) rfl rfl (ci := 1) (q0 := 0) rfl rfl) rfl rfl hl.1 rfl (lv_room (Nat.le_of_ble_eq_true rfl)) d_Composer_addFixed_4 ⟨Nat.le_refl _, Nat.le_refl _⟩) hw hA [3, 4] [0, 1, 2] rfl rfl (by decide) (by decide) (fun H locs hw => ?_)
  have hw : mm_w (dC, dI) vwC A s [(h_c, .inr (4, [.ref h_c_paper, .ref h_c_figures, .int c_start, .int c_zerosAt, .int c_behind, .int c_withExponent])), (h_c_paper, .inr (0, [.ref h_c_paper_kept, .int c_paper_length])), (h_c_paper_kept, .inl (cC, c_paper_kept_n, .inl c_paper_kept)), (h_c_figures, .inr (1, [.ref h_c_figures_digits, .int c_figures_count, .int c_figures_scale])), (h_c_figures_digits, .inl (cI, c_figures_digits_n, .inl c_figures_digits))] H locs := hw
  refine lv_iconst (v := (0 : Int32)) hx hb d_Composer_addFixed_7 (by decide) ?_
  refine va_mmax hx hb (hml.trans hl.1.symm) hown (hts _ (List.mem_cons_of_mem _ q_536)) (hts _ (List.mem_cons_of_mem _ q_89)) (hts _ (List.mem_cons_of_mem _ q_56)) (hts _ (List.mem_cons_of_mem _ q_90)) (Nat.le_of_ble_eq_true rfl) (Nat.le_of_ble_eq_true rfl) (Nat.zero_le _) (Nat.zero_le _) d_Composer_addFixed_8 ?_
  refine lv_istore_n (lv' := [(3, .int (if r_1 < (0 : Int32) then (0 : Int32) else r_1)), (0, .ref h_c), (1, .int gr), (2, .int pt)]) hx hb d_Composer_addFixed_11 rfl hl (by decide) rfl (fun ls hl => ?_)
  exact b_Composer_addFixed_12 Zo C0 N c_paper_kept_n c_figures_digits_n c_figures_digits c_figures_count c_figures_scale c_start c_zerosAt c_behind c_withExponent gr pt  out N c_paper_kept c_paper_length (if r_1 < (0 : Int32) then (0 : Int32) else r_1) hf _ _ hw _ (lv_sub hl [1, 2, 3, 0] rfl)
/-! DirectivePrinter$Composer.addWithExponent(Z)V -/
def f_Composer_addWithExponent_55 (c_paper_kept_n : Nat) (c_paper_kept : Nat → Int32) (c_paper_length : Int32) (x2 : Int32) (y0 : Int32) : Option ((Nat → Int32) × Int32) := mm_b2 (f_Row_add c_paper_kept_n c_paper_kept c_paper_length y0) (fun o_9 o_10 => mm_b2 (f_Row_add c_paper_kept_n o_9 o_10 (mm_c ((48 : Int32) + (((if 0 ≤ x2 then x2 else 0 - x2) / (10 : Int32)) - ((if 0 ≤ x2 then x2 else 0 - x2) / (10 : Int32)) / (10 : Int32) * (10 : Int32))))) (fun o_11 o_12 => mm_b2 (f_Row_add c_paper_kept_n o_11 o_12 (mm_c ((48 : Int32) + ((if 0 ≤ x2 then x2 else 0 - x2) - (if 0 ≤ x2 then x2 else 0 - x2) / (10 : Int32) * (10 : Int32))))) (fun o_13 o_14 => some (o_13, o_14))))
def f_Composer_addWithExponent (N : Nat) (c_paper_kept_n : Nat) (c_paper_kept : Nat → Int32) (c_paper_length : Int32) (c_figures_digits_n : Nat) (c_figures_digits : Nat → Int32) (c_figures_count : Int32) (c_figures_scale : Int32) (c_behind : Int32) (pt : Int32) : Option ((Nat → Int32) × Int32) := mm_b1 (f_Figures_exponent c_figures_count c_figures_scale) (fun r_1 => mm_b1 (f_Figures_sign c_figures_digits_n c_figures_digits c_figures_count c_figures_scale r_1) (fun r_2 => mm_b2 (f_Row_add c_paper_kept_n c_paper_kept c_paper_length r_2) (fun o_3 o_4 => mm_b2 (f_Composer_addBehindPoint N c_paper_kept_n o_3 o_4 c_figures_digits_n c_figures_digits c_figures_count c_figures_scale c_behind (r_1 - (1 : Int32)) pt) (fun o_5 o_6 => mm_b2 (f_Row_add c_paper_kept_n o_5 o_6 (101 : Int32)) (fun o_7 o_8 => (if 0 ≤ r_1 then f_Composer_addWithExponent_55 c_paper_kept_n o_7 o_8 r_1 (43 : Int32) else f_Composer_addWithExponent_55 c_paper_kept_n o_7 o_8 r_1 (45 : Int32)))))))
abbrev r_Composer_addWithExponent : Room := { frames := 6, cells := 0, slots := 0, locals := 132 }
set_option maxHeartbeats 4000000 in
set_option maxRecDepth 100000 in
theorem b_Composer_addWithExponent_55 {h_c h_c_paper h_c_paper_kept h_c_figures h_c_figures_digits : Nat} (Zo : mm_Zx Z ad adK adV) (C0 : mm_cx (dC, dI) vwC (tyl cC cI cJ cQ) Z p s m args meth c b_Composer_addWithExponent 4 none "DirectivePrinter$Composer" w_Composer_addWithExponent A) (N : Nat) (c_paper_kept_n : Nat) (c_figures_digits_n : Nat) (c_figures_digits : Nat → Int32) (c_figures_count : Int32) (c_figures_scale : Int32) (c_start : Int32) (c_zerosAt : Int32) (c_behind : Int32) (c_withExponent : Int32) (pt : Int32) (out : (Nat → Int32) × Int32) : ∀ (c_paper_kept : Nat → Int32) (c_paper_length : Int32) (x2 : Int32) (y0 : Int32), f_Composer_addWithExponent_55 c_paper_kept_n c_paper_kept c_paper_length x2 y0 = some out → ∀ (H : Heap) (locs : List Loc), mm_w (dC, dI) vwC A s [(h_c, .inr (4, [.ref h_c_paper, .ref h_c_figures, .int c_start, .int c_zerosAt, .int c_behind, .int c_withExponent])), (h_c_paper, .inr (0, [.ref h_c_paper_kept, .int c_paper_length])), (h_c_paper_kept, .inl (cC, c_paper_kept_n, .inl c_paper_kept)), (h_c_figures, .inr (1, [.ref h_c_figures_digits, .int c_figures_count, .int c_figures_scale])), (h_c_figures_digits, .inl (cI, c_figures_digits_n, .inl c_figures_digits))] H locs → ∀ (ls : Array Slot), lv_has ls 4 [(0, .ref h_c), (2, .int x2)] → W p l e r_Composer_addWithExponent s m args below meth c H locs 0 0 (MQ below (mm_qv (dC, dI) vwC (tyl cC cI cJ cQ) A [(h_c, .inr (4, [.ref h_c_paper, .ref h_c_figures, .int c_start, .int c_zerosAt, .int c_behind, .int c_withExponent])), (h_c_paper, .inr (0, [.ref h_c_paper_kept, .int out.2])), (h_c_paper_kept, .inl (cC, c_paper_kept_n, .inl out.1)), (h_c_figures, .inr (1, [.ref h_c_figures_digits, .int c_figures_count, .int c_figures_scale])), (h_c_figures_digits, .inl (cI, c_figures_digits_n, .inl c_figures_digits))]) args s 0 0 A) (F0 m 55 ls [.int y0, .ref h_c_paper]) := by
  obtain ⟨hx, hb, hr, hml, hown, hts, hlocks, hK, hZ, hA⟩ := id C0
  intro c_paper_kept c_paper_length x2 y0 hf H locs hw ls hl
  unfold f_Composer_addWithExponent_55 at hf
  obtain ⟨o_9, o_10, hu, hf⟩ := mm_b2_ok hf
  refine mm_cv (wr := [(h_c, .inr (4, [.ref h_c_paper, .ref h_c_figures, .int c_start, .int c_zerosAt, .int c_behind, .int c_withExponent])), (h_c_figures, .inr (1, [.ref h_c_figures_digits, .int c_figures_count, .int c_figures_scale])), (h_c_figures_digits, .inl (cI, c_figures_digits_n, .inl c_figures_digits))]) (va_runV (As := [.int y0]) (rest := []) ⟨hx, hb, hml, hown, hts⟩ (c_Row_add l Zo dC dI cC cI cJ cQ c_paper_kept_n c_paper_kept c_paper_length y0 h_c_paper h_c_paper_kept H.size (o_9, o_10) hu) (cwV 1 hts (mm_gV q_458 q_459 q_460 q_55 q_461) rfl rfl rfl (by decide +kernel) ⟨Nat.le_of_ble_eq_true rfl, Nat.le_of_ble_eq_true rfl⟩) (mm_pv Zo.1 hK hw hZ hA [1, 2] (by decide) rfl rfl (ci := 0) (q0 := 0) rfl rfl) rfl rfl hl.1 rfl (lv_room (Nat.le_of_ble_eq_true rfl)) d_Composer_addWithExponent_55 ⟨Nat.le_refl _, Nat.le_refl _⟩) hw hA [1, 2] [0, 3, 4] rfl rfl (by decide) (by decide) (fun H locs hw => ?_)
  have hw : mm_w (dC, dI) vwC A s [(h_c, .inr (4, [.ref h_c_paper, .ref h_c_figures, .int c_start, .int c_zerosAt, .int c_behind, .int c_withExponent])), (h_c_figures, .inr (1, [.ref h_c_figures_digits, .int c_figures_count, .int c_figures_scale])), (h_c_figures_digits, .inl (cI, c_figures_digits_n, .inl c_figures_digits)), (h_c_paper, .inr (0, [.ref h_c_paper_kept, .int o_10])), (h_c_paper_kept, .inl (cC, c_paper_kept_n, .inl o_9))] H locs := hw
  refine lv_iload_n hx hb d_Composer_addWithExponent_58 rfl (lv_at hl 1 rfl) ?_
  refine va_mabs hx hb (hml.trans hl.1.symm) hown (hts _ (List.mem_cons_of_mem _ q_603)) (hts _ (List.mem_cons_of_mem _ q_604)) (hts _ (List.mem_cons_of_mem _ q_56)) (hts _ (List.mem_cons_of_mem _ q_605)) (Nat.le_of_ble_eq_true rfl) (Nat.le_of_ble_eq_true rfl) (Nat.zero_le _) (Nat.zero_le _) d_Composer_addWithExponent_59 ?_
  refine lv_istore_n (lv' := [(3, .int (if 0 ≤ x2 then x2 else 0 - x2)), (0, .ref h_c), (2, .int x2)]) hx hb d_Composer_addWithExponent_62 rfl hl (by decide) rfl (fun ls hl => ?_)
  refine lv_aload_n hx hb d_Composer_addWithExponent_63 rfl (lv_at hl 1 rfl) ?_
  refine va_get (D := (dC, dI)) (ci := 4) (v := .ref h_c_paper) (C := "DirectivePrinter$Composer") (T := T_Composer) (N := 6) hx hb hts (mm_up i_Composer) hown hK hw.1 0 rfl rfl 0 (by decide) (hts _ (List.mem_cons_of_mem _ q_187)) (fun _ h9 => h9) rfl d_Composer_addWithExponent_64 ?_
  refine lv_bipush (v := (48 : Int32)) hx hb d_Composer_addWithExponent_67 (by decide) ?_
  refine lv_iload_n hx hb d_Composer_addWithExponent_69 rfl (lv_at hl 0 rfl) ?_
  refine lv_bipush (v := (10 : Int32)) hx hb d_Composer_addWithExponent_70 (by decide) ?_
  refine lv_idiv hx hb d_Composer_addWithExponent_72 (by decide) ?_
  refine lv_bipush (v := (10 : Int32)) hx hb d_Composer_addWithExponent_73 (by decide) ?_
  refine lv_irem hx hb d_Composer_addWithExponent_75 (by decide) ?_
  refine lv_iadd hx hb d_Composer_addWithExponent_76 ?_
  refine lv_i2c (v := mm_c ((48 : Int32) + (((if 0 ≤ x2 then x2 else 0 - x2) / (10 : Int32)) - ((if 0 ≤ x2 then x2 else 0 - x2) / (10 : Int32)) / (10 : Int32) * (10 : Int32)))) hx hb d_Composer_addWithExponent_77 rfl ?_
  obtain ⟨o_11, o_12, hu, hf⟩ := mm_b2_ok hf
  refine mm_cv (wr := [(h_c, .inr (4, [.ref h_c_paper, .ref h_c_figures, .int c_start, .int c_zerosAt, .int c_behind, .int c_withExponent])), (h_c_figures, .inr (1, [.ref h_c_figures_digits, .int c_figures_count, .int c_figures_scale])), (h_c_figures_digits, .inl (cI, c_figures_digits_n, .inl c_figures_digits))]) (va_runV (As := [.int (mm_c ((48 : Int32) + (((if 0 ≤ x2 then x2 else 0 - x2) / (10 : Int32)) - ((if 0 ≤ x2 then x2 else 0 - x2) / (10 : Int32)) / (10 : Int32) * (10 : Int32))))]) (rest := []) ⟨hx, hb, hml, hown, hts⟩ (c_Row_add l Zo dC dI cC cI cJ cQ c_paper_kept_n o_9 o_10 (mm_c ((48 : Int32) + (((if 0 ≤ x2 then x2 else 0 - x2) / (10 : Int32)) - ((if 0 ≤ x2 then x2 else 0 - x2) / (10 : Int32)) / (10 : Int32) * (10 : Int32)))) h_c_paper h_c_paper_kept H.size (o_11, o_12) hu) (cwV 1 hts (mm_gV q_458 q_459 q_460 q_55 q_461) rfl rfl rfl (by decide +kernel) ⟨Nat.le_of_ble_eq_true rfl, Nat.le_of_ble_eq_true rfl⟩) (mm_pv Zo.1 hK hw hZ hA [3, 4] (by decide) rfl rfl (ci := 0) (q0 := 0) rfl rfl) rfl rfl hl.1 rfl (lv_room (Nat.le_of_ble_eq_true rfl)) d_Composer_addWithExponent_78 ⟨Nat.le_refl _, Nat.le_refl _⟩) hw hA [3, 4] [0, 1, 2] rfl rfl (by decide) (by decide) (fun H locs hw => ?_)
  have hw : mm_w (dC, dI) vwC A s [(h_c, .inr (4, [.ref h_c_paper, .ref h_c_figures, .int c_start, .int c_zerosAt, .int c_behind, .int c_withExponent])), (h_c_figures, .inr (1, [.ref h_c_figures_digits, .int c_figures_count, .int c_figures_scale])), (h_c_figures_digits, .inl (cI, c_figures_digits_n, .inl c_figures_digits)), (h_c_paper, .inr (0, [.ref h_c_paper_kept, .int o_12])), (h_c_paper_kept, .inl (cC, c_paper_kept_n, .inl o_11))] H locs := hw
  refine lv_aload_n hx hb d_Composer_addWithExponent_81 rfl (lv_at hl 1 rfl) ?_
  refine va_get (D := (dC, dI)) (ci := 4) (v := .ref h_c_paper) (C := "DirectivePrinter$Composer") (T := T_Composer) (N := 6) hx hb hts (mm_up i_Composer) hown hK hw.1 0 rfl rfl 0 (by decide) (hts _ (List.mem_cons_of_mem _ q_187)) (fun _ h9 => h9) rfl d_Composer_addWithExponent_82 ?_
  refine lv_bipush (v := (48 : Int32)) hx hb d_Composer_addWithExponent_85 (by decide) ?_
  refine lv_iload_n hx hb d_Composer_addWithExponent_87 rfl (lv_at hl 0 rfl) ?_
  refine lv_bipush (v := (10 : Int32)) hx hb d_Composer_addWithExponent_88 (by decide) ?_
  refine lv_irem hx hb d_Composer_addWithExponent_90 (by decide) ?_
  refine lv_iadd hx hb d_Composer_addWithExponent_91 ?_
  refine lv_i2c (v := mm_c ((48 : Int32) + ((if 0 ≤ x2 then x2 else 0 - x2) - (if 0 ≤ x2 then x2 else 0 - x2) / (10 : Int32) * (10 : Int32)))) hx hb d_Composer_addWithExponent_92 rfl ?_
  obtain ⟨o_13, o_14, hu, hf⟩ := mm_b2_ok hf
  refine mm_cv (wr := [(h_c, .inr (4, [.ref h_c_paper, .ref h_c_figures, .int c_start, .int c_zerosAt, .int c_behind, .int c_withExponent])), (h_c_figures, .inr (1, [.ref h_c_figures_digits, .int c_figures_count, .int c_figures_scale])), (h_c_figures_digits, .inl (cI, c_figures_digits_n, .inl c_figures_digits))]) (va_runV (As := [.int (mm_c ((48 : Int32) + ((if 0 ≤ x2 then x2 else 0 - x2) - (if 0 ≤ x2 then x2 else 0 - x2) / (10 : Int32) * (10 : Int32))))]) (rest := []) ⟨hx, hb, hml, hown, hts⟩ (c_Row_add l Zo dC dI cC cI cJ cQ c_paper_kept_n o_11 o_12 (mm_c ((48 : Int32) + ((if 0 ≤ x2 then x2 else 0 - x2) - (if 0 ≤ x2 then x2 else 0 - x2) / (10 : Int32) * (10 : Int32)))) h_c_paper h_c_paper_kept H.size (o_13, o_14) hu) (cwV 1 hts (mm_gV q_458 q_459 q_460 q_55 q_461) rfl rfl rfl (by decide +kernel) ⟨Nat.le_of_ble_eq_true rfl, Nat.le_of_ble_eq_true rfl⟩) (mm_pv Zo.1 hK hw hZ hA [3, 4] (by decide) rfl rfl (ci := 0) (q0 := 0) rfl rfl) rfl rfl hl.1 rfl (lv_room (Nat.le_of_ble_eq_true rfl)) d_Composer_addWithExponent_93 ⟨Nat.le_refl _, Nat.le_refl _⟩) hw hA [3, 4] [0, 1, 2] rfl rfl (by decide) (by decide) (fun H locs hw => ?_)
  have hw : mm_w (dC, dI) vwC A s [(h_c, .inr (4, [.ref h_c_paper, .ref h_c_figures, .int c_start, .int c_zerosAt, .int c_behind, .int c_withExponent])), (h_c_figures, .inr (1, [.ref h_c_figures_digits, .int c_figures_count, .int c_figures_scale])), (h_c_figures_digits, .inl (cI, c_figures_digits_n, .inl c_figures_digits)), (h_c_paper, .inr (0, [.ref h_c_paper_kept, .int o_14])), (h_c_paper_kept, .inl (cC, c_paper_kept_n, .inl o_13))] H locs := hw
  obtain rfl := Option.some.inj hf
  exact mm_vret hx hb hr hlocks hK (mm_wsub hw [0, 3, 4, 1, 2] (by decide) rfl rfl) d_Composer_addWithExponent_96
set_option maxHeartbeats 4000000 in
set_option maxRecDepth 100000 in
theorem c_Composer_addWithExponent (l : Launch) {Z : (Nat → Prop) → State → Heap → Prop} {ad adK adV : Nat → Nat} (Zo : mm_Zx Z ad adK adV) (dC : Nat → ClassId) (dI : Nat → Nat → Nat) (cC cI cJ cQ : ClassId) (N : Nat) (c_paper_kept_n : Nat) (c_paper_kept : Nat → Int32) (c_paper_length : Int32) (c_figures_digits_n : Nat) (c_figures_digits : Nat → Int32) (c_figures_count : Int32) (c_figures_scale : Int32) (c_start : Int32) (c_zerosAt : Int32) (c_behind : Int32) (c_withExponent : Int32) (pt : Int32) (h_c h_c_paper h_c_paper_kept h_c_figures h_c_figures_digits : Nat) (sz : Nat) (out : (Nat → Int32) × Int32) (hf : f_Composer_addWithExponent N c_paper_kept_n c_paper_kept c_paper_length c_figures_digits_n c_figures_digits c_figures_count c_figures_scale c_behind pt = some out) : Met l y_Composer_addWithExponent w_Composer_addWithExponent r_Composer_addWithExponent (mm_pre (dC, dI) vwC (tyl cC cI cJ cQ) Z [(h_c, .inr (4, [.ref h_c_paper, .ref h_c_figures, .int c_start, .int c_zerosAt, .int c_behind, .int c_withExponent])), (h_c_paper, .inr (0, [.ref h_c_paper_kept, .int c_paper_length])), (h_c_paper_kept, .inl (cC, c_paper_kept_n, .inl c_paper_kept)), (h_c_figures, .inr (1, [.ref h_c_figures_digits, .int c_figures_count, .int c_figures_scale])), (h_c_figures_digits, .inl (cI, c_figures_digits_n, .inl c_figures_digits))] sz [.ref h_c, .int pt]) (mm_qv (dC, dI) vwC (tyl cC cI cJ cQ) (va_A [(h_c, .inr (4, [.ref h_c_paper, .ref h_c_figures, .int c_start, .int c_zerosAt, .int c_behind, .int c_withExponent])), (h_c_paper, .inr (0, [.ref h_c_paper_kept, .int c_paper_length])), (h_c_paper_kept, .inl (cC, c_paper_kept_n, .inl c_paper_kept)), (h_c_figures, .inr (1, [.ref h_c_figures_digits, .int c_figures_count, .int c_figures_scale])), (h_c_figures_digits, .inl (cI, c_figures_digits_n, .inl c_figures_digits))] sz) [(h_c, .inr (4, [.ref h_c_paper, .ref h_c_figures, .int c_start, .int c_zerosAt, .int c_behind, .int c_withExponent])), (h_c_paper, .inr (0, [.ref h_c_paper_kept, .int out.2])), (h_c_paper_kept, .inl (cC, c_paper_kept_n, .inl out.1)), (h_c_figures, .inr (1, [.ref h_c_figures_digits, .int c_figures_count, .int c_figures_scale])), (h_c_figures_digits, .inl (cI, c_figures_digits_n, .inl c_figures_digits))]) 0 0 (va_A [(h_c, .inr (4, [.ref h_c_paper, .ref h_c_figures, .int c_start, .int c_zerosAt, .int c_behind, .int c_withExponent])), (h_c_paper, .inr (0, [.ref h_c_paper_kept, .int c_paper_length])), (h_c_paper_kept, .inl (cC, c_paper_kept_n, .inl c_paper_kept)), (h_c_figures, .inr (1, [.ref h_c_figures_digits, .int c_figures_count, .int c_figures_scale])), (h_c_figures_digits, .inl (cI, c_figures_digits_n, .inl c_figures_digits))] sz) := by
  refine mm_of (own := "DirectivePrinter$Composer") (cc := b_Composer_addWithExponent) (maxL := 4) (ret := none) (by decide) rfl rfl ?_
  intro p e s m below meth c hsz C0 hw hname
  generalize (va_A [(h_c, .inr (4, [.ref h_c_paper, .ref h_c_figures, .int c_start, .int c_zerosAt, .int c_behind, .int c_withExponent])), (h_c_paper, .inr (0, [.ref h_c_paper_kept, .int c_paper_length])), (h_c_paper_kept, .inl (cC, c_paper_kept_n, .inl c_paper_kept)), (h_c_figures, .inr (1, [.ref h_c_figures_digits, .int c_figures_count, .int c_figures_scale])), (h_c_figures_digits, .inl (cI, c_figures_digits_n, .inl c_figures_digits))] sz) = A at C0 hw ⊢
  have hl := lv_entry ([.ref h_c, .int pt]) (n := 4) (Nat.le_of_ble_eq_true rfl)
  rw [lg_entry_eq]
  generalize (lg_sl ([.ref h_c, .int pt]) ++ List.replicate (4 - (lg_sl ([.ref h_c, .int pt])).length) Slot.unset).toArray = ls at hl ⊢
  have hl : lv_has ls 4 [(0, .ref h_c), (1, .int pt)] := hl
  obtain ⟨hx, hb, hr, hml, hown, hts, hlocks, hK, hZ, hA⟩ := id C0
  generalize s.heap = H at hw ⊢
  unfold f_Composer_addWithExponent at hf
  refine lv_aload_n hx hb d_Composer_addWithExponent_0 rfl (lv_at hl 0 rfl) ?_
  refine va_get (D := (dC, dI)) (ci := 4) (v := .ref h_c_figures) (C := "DirectivePrinter$Composer") (T := T_Composer) (N := 6) hx hb hts (mm_up i_Composer) hown hK hw.1 0 rfl rfl 1 (by decide) (hts _ (List.mem_cons_of_mem _ q_189)) (fun _ h9 => h9) rfl d_Composer_addWithExponent_1 ?_
  obtain ⟨r_1, hu, hf⟩ := mm_b1_ok hf
  refine mm_ci (wr := [(h_c, .inr (4, [.ref h_c_paper, .ref h_c_figures, .int c_start, .int c_zerosAt, .int c_behind, .int c_withExponent])), (h_c_paper, .inr (0, [.ref h_c_paper_kept, .int c_paper_length])), (h_c_paper_kept, .inl (cC, c_paper_kept_n, .inl c_paper_kept))]) (va_runV (As := []) (rest := []) ⟨hx, hb, hml, hown, hts⟩ (c_Figures_exponent l Zo dC dI cC cI cJ cQ c_figures_digits_n c_figures_digits c_figures_count c_figures_scale h_c_figures h_c_figures_digits H.size r_1 hu) (cwV 0 hts (mm_gV q_590 q_591 q_592 q_62 q_593) rfl rfl rfl (by decide +kernel) ⟨Nat.le_of_ble_eq_true rfl, Nat.le_of_ble_eq_true rfl⟩) (mm_pv Zo.1 hK hw hZ hA [3, 4] (by decide) rfl rfl (ci := 1) (q0 := 0) rfl rfl) rfl rfl hl.1 rfl (lv_room (Nat.le_of_ble_eq_true rfl)) d_Composer_addWithExponent_4 ⟨Nat.le_refl _, Nat.le_refl _⟩) hw hA [3, 4] [0, 1, 2] rfl rfl (by decide) (by decide) (fun H locs hw => ?_)
  have hw : mm_w (dC, dI) vwC A s [(h_c, .inr (4, [.ref h_c_paper, .ref h_c_figures, .int c_start, .int c_zerosAt, .int c_behind, .int c_withExponent])), (h_c_paper, .inr (0, [.ref h_c_paper_kept, .int c_paper_length])), (h_c_paper_kept, .inl (cC, c_paper_kept_n, .inl c_paper_kept)), (h_c_figures, .inr (1, [.ref h_c_figures_digits, .int c_figures_count, .int c_figures_scale])), (h_c_figures_digits, .inl (cI, c_figures_digits_n, .inl c_figures_digits))] H locs := hw
  refine lv_istore_n (lv' := [(2, .int r_1), (0, .ref h_c), (1, .int pt)]) hx hb d_Composer_addWithExponent_7 rfl hl (by decide) rfl (fun ls hl => ?_)
  refine lv_aload_n hx hb d_Composer_addWithExponent_8 rfl (lv_at hl 1 rfl) ?_
  refine va_get (D := (dC, dI)) (ci := 4) (v := .ref h_c_paper) (C := "DirectivePrinter$Composer") (T := T_Composer) (N := 6) hx hb hts (mm_up i_Composer) hown hK hw.1 0 rfl rfl 0 (by decide) (hts _ (List.mem_cons_of_mem _ q_187)) (fun _ h9 => h9) rfl d_Composer_addWithExponent_9 ?_
  refine lv_aload_n hx hb d_Composer_addWithExponent_12 rfl (lv_at hl 1 rfl) ?_
  refine va_get (D := (dC, dI)) (ci := 4) (v := .ref h_c_figures) (C := "DirectivePrinter$Composer") (T := T_Composer) (N := 6) hx hb hts (mm_up i_Composer) hown hK hw.1 0 rfl rfl 1 (by decide) (hts _ (List.mem_cons_of_mem _ q_189)) (fun _ h9 => h9) rfl d_Composer_addWithExponent_13 ?_
  refine lv_iload_n hx hb d_Composer_addWithExponent_16 rfl (lv_at hl 0 rfl) ?_
  obtain ⟨r_2, hu, hf⟩ := mm_b1_ok hf
  refine mm_ci (wr := [(h_c, .inr (4, [.ref h_c_paper, .ref h_c_figures, .int c_start, .int c_zerosAt, .int c_behind, .int c_withExponent])), (h_c_paper, .inr (0, [.ref h_c_paper_kept, .int c_paper_length])), (h_c_paper_kept, .inl (cC, c_paper_kept_n, .inl c_paper_kept))]) (va_runV (As := [.int r_1]) (rest := [.ref h_c_paper]) ⟨hx, hb, hml, hown, hts⟩ (c_Figures_sign l Zo dC dI cC cI cJ cQ c_figures_digits_n c_figures_digits c_figures_count c_figures_scale r_1 h_c_figures h_c_figures_digits H.size r_2 hu) (cwV 1 hts (mm_gV q_537 q_538 q_539 q_62 q_540) rfl rfl rfl (by decide +kernel) ⟨Nat.le_of_ble_eq_true rfl, Nat.le_of_ble_eq_true rfl⟩) (mm_pv Zo.1 hK hw hZ hA [3, 4] (by decide) rfl rfl (ci := 1) (q0 := 0) rfl rfl) rfl rfl hl.1 rfl (lv_room (Nat.le_of_ble_eq_true rfl)) d_Composer_addWithExponent_17 ⟨Nat.le_refl _, Nat.le_refl _⟩) hw hA [3, 4] [0, 1, 2] rfl rfl (by decide) (by decide) (fun H locs hw => ?_)
  have hw : mm_w (dC, dI) vwC A s [(h_c, .inr (4, [.ref h_c_paper, .ref h_c_figures, .int c_start, .int c_zerosAt, .int c_behind, .int c_withExponent])), (h_c_paper, .inr (0, [.ref h_c_paper_kept, .int c_paper_length])), (h_c_paper_kept, .inl (cC, c_paper_kept_n, .inl c_paper_kept)), (h_c_figures, .inr (1, [.ref h_c_figures_digits, .int c_figures_count, .int c_figures_scale])), (h_c_figures_digits, .inl (cI, c_figures_digits_n, .inl c_figures_digits))] H locs := hw
  obtain ⟨o_3, o_4, hu, hf⟩ := mm_b2_ok hf
  refine mm_cv (wr := [(h_c, .inr (4, [.ref h_c_paper, .ref h_c_figures, .int c_start, .int c_zerosAt, .int c_behind, .int c_withExponent])), (h_c_figures, .inr (1, [.ref h_c_figures_digits, .int c_figures_count, .int c_figures_scale])), (h_c_figures_digits, .inl (cI, c_figures_digits_n, .inl c_figures_digits))]) (va_runV (As := [.int r_2]) (rest := []) ⟨hx, hb, hml, hown, hts⟩ (c_Row_add l Zo dC dI cC cI cJ cQ c_paper_kept_n c_paper_kept c_paper_length r_2 h_c_paper h_c_paper_kept H.size (o_3, o_4) hu) (cwV 1 hts (mm_gV q_458 q_459 q_460 q_55 q_461) rfl rfl rfl (by decide +kernel) ⟨Nat.le_of_ble_eq_true rfl, Nat.le_of_ble_eq_true rfl⟩) (mm_pv Zo.1 hK hw hZ hA [1, 2] (by decide) rfl rfl (ci := 0) (q0 := 0) rfl rfl) rfl rfl hl.1 rfl (lv_room (Nat.le_of_ble_eq_true rfl)) d_Composer_addWithExponent_20 ⟨Nat.le_refl _, Nat.le_refl _⟩) hw hA [1, 2] [0, 3, 4] rfl rfl (by decide) (by decide) (fun H locs hw => ?_)
  have hw : mm_w (dC, dI) vwC A s [(h_c, .inr (4, [.ref h_c_paper, .ref h_c_figures, .int c_start, .int c_zerosAt, .int c_behind, .int c_withExponent])), (h_c_figures, .inr (1, [.ref h_c_figures_digits, .int c_figures_count, .int c_figures_scale])), (h_c_figures_digits, .inl (cI, c_figures_digits_n, .inl c_figures_digits)), (h_c_paper, .inr (0, [.ref h_c_paper_kept, .int o_4])), (h_c_paper_kept, .inl (cC, c_paper_kept_n, .inl o_3))] H locs := hw
  refine lv_aload_n hx hb d_Composer_addWithExponent_23 rfl (lv_at hl 1 rfl) ?_
  refine lv_iload_n hx hb d_Composer_addWithExponent_24 rfl (lv_at hl 0 rfl) ?_
  refine lv_iconst (v := (1 : Int32)) hx hb d_Composer_addWithExponent_25 (by decide) ?_
  refine lv_isub hx hb d_Composer_addWithExponent_26 ?_
  refine lv_iload_n hx hb d_Composer_addWithExponent_27 rfl (lv_at hl 2 rfl) ?_
  obtain ⟨o_5, o_6, hu, hf⟩ := mm_b2_ok hf
  refine mm_cv (wr := []) (va_runV (As := [.int (r_1 - (1 : Int32)), .int pt]) (rest := []) ⟨hx, hb, hml, hown, hts⟩ (c_Composer_addBehindPoint l Zo dC dI cC cI cJ cQ N c_paper_kept_n o_3 o_4 c_figures_digits_n c_figures_digits c_figures_count c_figures_scale c_start c_zerosAt c_behind c_withExponent (r_1 - (1 : Int32)) pt h_c h_c_paper h_c_paper_kept h_c_figures h_c_figures_digits H.size (o_5, o_6) hu) (cwV 2 hts (mm_gV q_544 q_546 q_16 q_61 q_547) rfl rfl rfl (by decide +kernel) ⟨Nat.le_of_ble_eq_true rfl, Nat.le_of_ble_eq_true rfl⟩) (mm_pv Zo.1 hK hw hZ hA [0, 3, 4, 1, 2] (by decide) rfl rfl (ci := 4) (q0 := 0) rfl rfl) rfl rfl hl.1 rfl (lv_room (Nat.le_of_ble_eq_true rfl)) d_Composer_addWithExponent_28 ⟨Nat.le_refl _, Nat.le_refl _⟩) hw hA [0, 3, 4, 1, 2] [] rfl rfl (by decide) (by decide) (fun H locs hw => ?_)
  have hw : mm_w (dC, dI) vwC A s [(h_c, .inr (4, [.ref h_c_paper, .ref h_c_figures, .int c_start, .int c_zerosAt, .int c_behind, .int c_withExponent])), (h_c_paper, .inr (0, [.ref h_c_paper_kept, .int o_6])), (h_c_paper_kept, .inl (cC, c_paper_kept_n, .inl o_5)), (h_c_figures, .inr (1, [.ref h_c_figures_digits, .int c_figures_count, .int c_figures_scale])), (h_c_figures_digits, .inl (cI, c_figures_digits_n, .inl c_figures_digits))] H locs := hw
  refine lv_aload_n hx hb d_Composer_addWithExponent_31 rfl (lv_at hl 1 rfl) ?_
  refine va_get (D := (dC, dI)) (ci := 4) (v := .ref h_c_paper) (C := "DirectivePrinter$Composer") (T := T_Composer) (N := 6) hx hb hts (mm_up i_Composer) hown hK hw.1 0 rfl rfl 0 (by decide) (hts _ (List.mem_cons_of_mem _ q_187)) (fun _ h9 => h9) rfl d_Composer_addWithExponent_32 ?_
  refine lv_bipush (v := (101 : Int32)) hx hb d_Composer_addWithExponent_35 (by decide) ?_
  obtain ⟨o_7, o_8, hu, hf⟩ := mm_b2_ok hf
  refine mm_cv (wr := [(h_c, .inr (4, [.ref h_c_paper, .ref h_c_figures, .int c_start, .int c_zerosAt, .int c_behind, .int c_withExponent])), (h_c_figures, .inr (1, [.ref h_c_figures_digits, .int c_figures_count, .int c_figures_scale])), (h_c_figures_digits, .inl (cI, c_figures_digits_n, .inl c_figures_digits))]) (va_runV (As := [.int (101 : Int32)]) (rest := []) ⟨hx, hb, hml, hown, hts⟩ (c_Row_add l Zo dC dI cC cI cJ cQ c_paper_kept_n o_5 o_6 (101 : Int32) h_c_paper h_c_paper_kept H.size (o_7, o_8) hu) (cwV 1 hts (mm_gV q_458 q_459 q_460 q_55 q_461) rfl rfl rfl (by decide +kernel) ⟨Nat.le_of_ble_eq_true rfl, Nat.le_of_ble_eq_true rfl⟩) (mm_pv Zo.1 hK hw hZ hA [1, 2] (by decide) rfl rfl (ci := 0) (q0 := 0) rfl rfl) rfl rfl hl.1 rfl (lv_room (Nat.le_of_ble_eq_true rfl)) d_Composer_addWithExponent_37 ⟨Nat.le_refl _, Nat.le_refl _⟩) hw hA [1, 2] [0, 3, 4] rfl rfl (by decide) (by decide) (fun H locs hw => ?_)
  have hw : mm_w (dC, dI) vwC A s [(h_c, .inr (4, [.ref h_c_paper, .ref h_c_figures, .int c_start, .int c_zerosAt, .int c_behind, .int c_withExponent])), (h_c_figures, .inr (1, [.ref h_c_figures_digits, .int c_figures_count, .int c_figures_scale])), (h_c_figures_digits, .inl (cI, c_figures_digits_n, .inl c_figures_digits)), (h_c_paper, .inr (0, [.ref h_c_paper_kept, .int o_8])), (h_c_paper_kept, .inl (cC, c_paper_kept_n, .inl o_7))] H locs := hw
  refine lv_aload_n hx hb d_Composer_addWithExponent_40 rfl (lv_at hl 1 rfl) ?_
  refine va_get (D := (dC, dI)) (ci := 4) (v := .ref h_c_paper) (C := "DirectivePrinter$Composer") (T := T_Composer) (N := 6) hx hb hts (mm_up i_Composer) hown hK hw.1 0 rfl rfl 0 (by decide) (hts _ (List.mem_cons_of_mem _ q_187)) (fun _ h9 => h9) rfl d_Composer_addWithExponent_41 ?_
  refine lv_iload_n hx hb d_Composer_addWithExponent_44 rfl (lv_at hl 0 rfl) ?_
  refine lv_if_ge (tgt := 53) hx hb d_Composer_addWithExponent_45 (by decide) (fun hc => ?_) (fun hc => ?_)
  · replace hf := mm_ip hc hf
    refine lv_bipush (v := (43 : Int32)) hx hb d_Composer_addWithExponent_53 (by decide) ?_
    exact b_Composer_addWithExponent_55 Zo C0 N c_paper_kept_n c_figures_digits_n c_figures_digits c_figures_count c_figures_scale c_start c_zerosAt c_behind c_withExponent pt  out o_7 o_8 r_1 (43 : Int32) hf _ _ (mm_wsub hw [0, 3, 4, 1, 2] (by decide) rfl rfl) _ (lv_sub hl [1, 0] rfl)
  · replace hf := mm_in hc hf
    refine lv_bipush (v := (45 : Int32)) hx hb d_Composer_addWithExponent_48 (by decide) ?_
    refine lv_goto (tgt := 55) hx hb d_Composer_addWithExponent_50 (by decide) ?_
    exact b_Composer_addWithExponent_55 Zo C0 N c_paper_kept_n c_figures_digits_n c_figures_digits c_figures_count c_figures_scale c_start c_zerosAt c_behind c_withExponent pt  out o_7 o_8 r_1 (45 : Int32) hf _ _ (mm_wsub hw [0, 3, 4, 1, 2] (by decide) rfl rfl) _ (lv_sub hl [1, 0] rfl)
/-! DirectivePrinter$Composer.roundFor(LDirectivePrinter$Directive;)V -/
def f_Composer_roundFor_150 (c_figures_digits : Nat → Int32) (c_figures_count : Int32) (c_behind : Int32) (c_withExponent : Int32) (x3 : Int32) (x4 : Int32) (y0 : Int32) : Option ((Nat → Int32) × Int32 × Int32 × Int32) := (if y0 = 0 ∨ y0 = 1 then (if y0 = 0 then some (c_figures_digits, c_figures_count, (x3 - (1 : Int32)) - x4, y0) else some (c_figures_digits, c_figures_count, x3 - (1 : Int32), y0)) else none)
def f_Composer_roundFor_145 (c_figures_digits : Nat → Int32) (c_figures_count : Int32) (c_behind : Int32) (c_withExponent : Int32) (x3 : Int32) (x4 : Int32) : Option ((Nat → Int32) × Int32 × Int32 × Int32) := f_Composer_roundFor_150 c_figures_digits c_figures_count c_behind c_withExponent x3 x4 (1 : Int32)
def f_Composer_roundFor (N : Nat) (c_figures_digits_n : Nat) (c_figures_digits : Nat → Int32) (c_figures_count : Int32) (c_figures_scale : Int32) (c_behind : Int32) (d_precision : Int32) (d_conversion : Int32) : Option ((Nat → Int32) × Int32 × Int32 × Int32) := mm_b1 (f_Directive_precisionOr d_precision (6 : Int32)) (fun r_1 => mm_b1 (f_Directive_smallConversion d_conversion) (fun r_2 => (if r_2 = (100 : Int32) then some (c_figures_digits, c_figures_count, (0 : Int32), (0 : Int32)) else (if r_2 = (101 : Int32) then mm_b1 (f_Figures_top c_figures_count c_figures_scale) (fun r_3 => mm_b2 (f_Figures_roundTo N c_figures_digits_n c_figures_digits c_figures_count c_figures_scale (r_3 - r_1)) (fun o_4 o_5 => some (o_4, o_5, r_1, (1 : Int32)))) else (if r_2 = (102 : Int32) then mm_b2 (f_Figures_roundTo N c_figures_digits_n c_figures_digits c_figures_count c_figures_scale (-r_1)) (fun o_6 o_7 => some (o_6, o_7, r_1, (0 : Int32))) else mm_b1 (f_Figures_top c_figures_count c_figures_scale) (fun r_8 => mm_b2 (f_Figures_roundTo N c_figures_digits_n c_figures_digits c_figures_count c_figures_scale (r_8 - ((if r_1 < (1 : Int32) then (1 : Int32) else r_1) - (1 : Int32)))) (fun o_9 o_10 => mm_b1 (f_Figures_exponent o_10 c_figures_scale) (fun r_11 => (if r_11 < (-4 : Int32) then f_Composer_roundFor_145 o_9 o_10 c_behind (0 : Int32) (if r_1 < (1 : Int32) then (1 : Int32) else r_1) r_11 else (if r_11 < (if r_1 < (1 : Int32) then (1 : Int32) else r_1) then f_Composer_roundFor_150 o_9 o_10 c_behind (0 : Int32) (if r_1 < (1 : Int32) then (1 : Int32) else r_1) r_11 (0 : Int32) else f_Composer_roundFor_145 o_9 o_10 c_behind (0 : Int32) (if r_1 < (1 : Int32) then (1 : Int32) else r_1) r_11))))))))))
abbrev r_Composer_roundFor : Room := { frames := 3, cells := 0, slots := 0, locals := 61 }
set_option maxHeartbeats 4000000 in
set_option maxRecDepth 100000 in
theorem b_Composer_roundFor_150 {h_c h_c_paper h_c_paper_kept h_c_figures h_c_figures_digits h_d : Nat} (Zo : mm_Zx Z ad adK adV) (C0 : mm_cx (dC, dI) vwC (tyl cC cI cJ cQ) Z p s m args meth c b_Composer_roundFor 5 none "DirectivePrinter$Composer" w_Composer_roundFor A) (N : Nat) (c_paper_kept_n : Nat) (c_paper_kept : Nat → Int32) (c_paper_length : Int32) (c_figures_digits_n : Nat) (c_figures_scale : Int32) (c_start : Int32) (c_zerosAt : Int32) (d_index : Int32) (d_flags : Int32) (d_flagTwice : Int32) (d_width : Int32) (d_precision : Int32) (d_conversion : Int32) (d_next : Int32) (out : (Nat → Int32) × Int32 × Int32 × Int32) : ∀ (c_figures_digits : Nat → Int32) (c_figures_count : Int32) (c_behind : Int32) (c_withExponent : Int32) (x3 : Int32) (x4 : Int32) (y0 : Int32), f_Composer_roundFor_150  c_figures_digits c_figures_count c_behind c_withExponent x3 x4 y0 = some out → ∀ (H : Heap) (locs : List Loc), mm_w (dC, dI) vwC A s [(h_c, .inr (4, [.ref h_c_paper, .ref h_c_figures, .int c_start, .int c_zerosAt, .int c_behind, .int c_withExponent])), (h_c_paper, .inr (0, [.ref h_c_paper_kept, .int c_paper_length])), (h_c_paper_kept, .inl (cC, c_paper_kept_n, .inl c_paper_kept)), (h_c_figures, .inr (1, [.ref h_c_figures_digits, .int c_figures_count, .int c_figures_scale])), (h_c_figures_digits, .inl (cI, c_figures_digits_n, .inl c_figures_digits)), (h_d, .inr (2, [.int d_index, .int d_flags, .int d_flagTwice, .int d_width, .int d_precision, .int d_conversion, .int d_next]))] H locs → ∀ (ls : Array Slot), lv_has ls 5 [(0, .ref h_c), (3, .int x3), (4, .int x4)] → W p l e r_Composer_roundFor s m args below meth c H locs 0 0 (MQ below (mm_qv (dC, dI) vwC (tyl cC cI cJ cQ) A [(h_c, .inr (4, [.ref h_c_paper, .ref h_c_figures, .int c_start, .int c_zerosAt, .int out.2.2.1, .int out.2.2.2])), (h_c_paper, .inr (0, [.ref h_c_paper_kept, .int c_paper_length])), (h_c_paper_kept, .inl (cC, c_paper_kept_n, .inl c_paper_kept)), (h_c_figures, .inr (1, [.ref h_c_figures_digits, .int out.2.1, .int c_figures_scale])), (h_c_figures_digits, .inl (cI, c_figures_digits_n, .inl out.1)), (h_d, .inr (2, [.int d_index, .int d_flags, .int d_flagTwice, .int d_width, .int d_precision, .int d_conversion, .int d_next]))]) args s 0 0 A) (F0 m 150 ls [.int y0, .ref h_c]) := by
  obtain ⟨hx, hb, hr, hml, hown, hts, hlocks, hK, hZ, hA⟩ := id C0
  intro c_figures_digits c_figures_count c_behind c_withExponent x3 x4 y0 hf H locs hw ls hl
  unfold f_Composer_roundFor_150 at hf
  obtain ⟨hz, hf⟩ := mm_ask hf
  refine va_put (D := (dC, dI)) (ci := 4) (v := .int y0) (ty := .boolean) (C := "DirectivePrinter$Composer") (T := T_Composer) (N := 6) hx hb hts (mm_up i_Composer) t_Composer t_Composer_ok n_Composer hown hK hw.1 hw.2.1 hw.2.2 0 rfl rfl 5 (by decide) (hts _ (List.mem_cons_of_mem _ q_193)) (fun _ h9 => h9) rfl (by decide +kernel) (mm_narZ hz) (mm_fitZ hz) (Nat.le_of_ble_eq_true rfl) d_Composer_roundFor_150 (fun H locs hP hD hS => ?_)
  have hw : mm_w (dC, dI) vwC A s [(h_c, .inr (4, [.ref h_c_paper, .ref h_c_figures, .int c_start, .int c_zerosAt, .int c_behind, .int y0])), (h_c_paper, .inr (0, [.ref h_c_paper_kept, .int c_paper_length])), (h_c_paper_kept, .inl (cC, c_paper_kept_n, .inl c_paper_kept)), (h_c_figures, .inr (1, [.ref h_c_figures_digits, .int c_figures_count, .int c_figures_scale])), (h_c_figures_digits, .inl (cI, c_figures_digits_n, .inl c_figures_digits)), (h_d, .inr (2, [.int d_index, .int d_flags, .int d_flagTwice, .int d_width, .int d_precision, .int d_conversion, .int d_next]))] H locs := ⟨hP, hD, hS⟩
  refine lv_aload_n hx hb d_Composer_roundFor_153 rfl (lv_at hl 0 rfl) ?_
  refine lv_aload_n hx hb d_Composer_roundFor_154 rfl (lv_at hl 0 rfl) ?_
  refine va_get (D := (dC, dI)) (ci := 4) (v := .int y0) (C := "DirectivePrinter$Composer") (T := T_Composer) (N := 6) hx hb hts (mm_up i_Composer) hown hK hw.1 0 rfl rfl 5 (by decide) (hts _ (List.mem_cons_of_mem _ q_193)) (fun _ h9 => h9) rfl d_Composer_roundFor_155 ?_
  refine lv_if_eq (tgt := 167) hx hb d_Composer_roundFor_158 (by decide) (fun hc => ?_) (fun hc => ?_)
  · replace hf := mm_ip hc hf
    refine lv_iload_n hx hb d_Composer_roundFor_167 rfl (lv_at hl 1 rfl) ?_
    refine lv_iconst (v := (1 : Int32)) hx hb d_Composer_roundFor_168 (by decide) ?_
    refine lv_isub hx hb d_Composer_roundFor_169 ?_
    refine lv_iload hx hb d_Composer_roundFor_170 (lv_at hl 2 rfl) ?_
    refine lv_isub hx hb d_Composer_roundFor_172 ?_
    refine va_put (D := (dC, dI)) (ci := 4) (v := .int ((x3 - (1 : Int32)) - x4)) (ty := .int) (C := "DirectivePrinter$Composer") (T := T_Composer) (N := 6) hx hb hts (mm_up i_Composer) t_Composer t_Composer_ok n_Composer hown hK hw.1 hw.2.1 hw.2.2 0 rfl rfl 4 (by decide) (hts _ (List.mem_cons_of_mem _ q_192)) (fun _ h9 => h9) rfl (by decide +kernel) rfl rfl (Nat.le_of_ble_eq_true rfl) d_Composer_roundFor_173 (fun H locs hP hD hS => ?_)
    have hw : mm_w (dC, dI) vwC A s [(h_c, .inr (4, [.ref h_c_paper, .ref h_c_figures, .int c_start, .int c_zerosAt, .int ((x3 - (1 : Int32)) - x4), .int y0])), (h_c_paper, .inr (0, [.ref h_c_paper_kept, .int c_paper_length])), (h_c_paper_kept, .inl (cC, c_paper_kept_n, .inl c_paper_kept)), (h_c_figures, .inr (1, [.ref h_c_figures_digits, .int c_figures_count, .int c_figures_scale])), (h_c_figures_digits, .inl (cI, c_figures_digits_n, .inl c_figures_digits)), (h_d, .inr (2, [.int d_index, .int d_flags, .int d_flagTwice, .int d_width, .int d_precision, .int d_conversion, .int d_next]))] H locs := ⟨hP, hD, hS⟩
    obtain rfl := Option.some.inj hf
    exact mm_vret hx hb hr hlocks hK (mm_wsub hw [0, 1, 2, 3, 4, 5] (by decide) rfl rfl) d_Composer_roundFor_176
  · replace hf := mm_in hc hf
    refine lv_iload_n hx hb d_Composer_roundFor_161 rfl (lv_at hl 1 rfl) ?_
    refine lv_iconst (v := (1 : Int32)) hx hb d_Composer_roundFor_162 (by decide) ?_
    refine lv_isub hx hb d_Composer_roundFor_163 ?_
    refine lv_goto (tgt := 173) hx hb d_Composer_roundFor_164 (by decide) ?_
    refine va_put (D := (dC, dI)) (ci := 4) (v := .int (x3 - (1 : Int32))) (ty := .int) (C := "DirectivePrinter$Composer") (T := T_Composer) (N := 6) hx hb hts (mm_up i_Composer) t_Composer t_Composer_ok n_Composer hown hK hw.1 hw.2.1 hw.2.2 0 rfl rfl 4 (by decide) (hts _ (List.mem_cons_of_mem _ q_192)) (fun _ h9 => h9) rfl (by decide +kernel) rfl rfl (Nat.le_of_ble_eq_true rfl) d_Composer_roundFor_173 (fun H locs hP hD hS => ?_)
    have hw : mm_w (dC, dI) vwC A s [(h_c, .inr (4, [.ref h_c_paper, .ref h_c_figures, .int c_start, .int c_zerosAt, .int (x3 - (1 : Int32)), .int y0])), (h_c_paper, .inr (0, [.ref h_c_paper_kept, .int c_paper_length])), (h_c_paper_kept, .inl (cC, c_paper_kept_n, .inl c_paper_kept)), (h_c_figures, .inr (1, [.ref h_c_figures_digits, .int c_figures_count, .int c_figures_scale])), (h_c_figures_digits, .inl (cI, c_figures_digits_n, .inl c_figures_digits)), (h_d, .inr (2, [.int d_index, .int d_flags, .int d_flagTwice, .int d_width, .int d_precision, .int d_conversion, .int d_next]))] H locs := ⟨hP, hD, hS⟩
    obtain rfl := Option.some.inj hf
    exact mm_vret hx hb hr hlocks hK (mm_wsub hw [0, 1, 2, 3, 4, 5] (by decide) rfl rfl) d_Composer_roundFor_176
set_option maxHeartbeats 4000000 in
set_option maxRecDepth 100000 in
theorem b_Composer_roundFor_145 {h_c h_c_paper h_c_paper_kept h_c_figures h_c_figures_digits h_d : Nat} (Zo : mm_Zx Z ad adK adV) (C0 : mm_cx (dC, dI) vwC (tyl cC cI cJ cQ) Z p s m args meth c b_Composer_roundFor 5 none "DirectivePrinter$Composer" w_Composer_roundFor A) (N : Nat) (c_paper_kept_n : Nat) (c_paper_kept : Nat → Int32) (c_paper_length : Int32) (c_figures_digits_n : Nat) (c_figures_scale : Int32) (c_start : Int32) (c_zerosAt : Int32) (d_index : Int32) (d_flags : Int32) (d_flagTwice : Int32) (d_width : Int32) (d_precision : Int32) (d_conversion : Int32) (d_next : Int32) (out : (Nat → Int32) × Int32 × Int32 × Int32) : ∀ (c_figures_digits : Nat → Int32) (c_figures_count : Int32) (c_behind : Int32) (c_withExponent : Int32) (x3 : Int32) (x4 : Int32), f_Composer_roundFor_145  c_figures_digits c_figures_count c_behind c_withExponent x3 x4 = some out → ∀ (H : Heap) (locs : List Loc), mm_w (dC, dI) vwC A s [(h_c, .inr (4, [.ref h_c_paper, .ref h_c_figures, .int c_start, .int c_zerosAt, .int c_behind, .int c_withExponent])), (h_c_paper, .inr (0, [.ref h_c_paper_kept, .int c_paper_length])), (h_c_paper_kept, .inl (cC, c_paper_kept_n, .inl c_paper_kept)), (h_c_figures, .inr (1, [.ref h_c_figures_digits, .int c_figures_count, .int c_figures_scale])), (h_c_figures_digits, .inl (cI, c_figures_digits_n, .inl c_figures_digits)), (h_d, .inr (2, [.int d_index, .int d_flags, .int d_flagTwice, .int d_width, .int d_precision, .int d_conversion, .int d_next]))] H locs → ∀ (ls : Array Slot), lv_has ls 5 [(0, .ref h_c), (3, .int x3), (4, .int x4)] → W p l e r_Composer_roundFor s m args below meth c H locs 0 0 (MQ below (mm_qv (dC, dI) vwC (tyl cC cI cJ cQ) A [(h_c, .inr (4, [.ref h_c_paper, .ref h_c_figures, .int c_start, .int c_zerosAt, .int out.2.2.1, .int out.2.2.2])), (h_c_paper, .inr (0, [.ref h_c_paper_kept, .int c_paper_length])), (h_c_paper_kept, .inl (cC, c_paper_kept_n, .inl c_paper_kept)), (h_c_figures, .inr (1, [.ref h_c_figures_digits, .int out.2.1, .int c_figures_scale])), (h_c_figures_digits, .inl (cI, c_figures_digits_n, .inl out.1)), (h_d, .inr (2, [.int d_index, .int d_flags, .int d_flagTwice, .int d_width, .int d_precision, .int d_conversion, .int d_next]))]) args s 0 0 A) (F0 m 145 ls [.ref h_c]) := by
  obtain ⟨hx, hb, hr, hml, hown, hts, hlocks, hK, hZ, hA⟩ := id C0
  intro c_figures_digits c_figures_count c_behind c_withExponent x3 x4 hf H locs hw ls hl
  unfold f_Composer_roundFor_145 at hf
  refine lv_iconst (v := (1 : Int32)) hx hb d_Composer_roundFor_145 (by decide) ?_
  refine lv_goto (tgt := 150) hx hb d_Composer_roundFor_146 (by decide) ?_
  exact b_Composer_roundFor_150 Zo C0 N c_paper_kept_n c_paper_kept c_paper_length c_figures_digits_n c_figures_scale c_start c_zerosAt d_index d_flags d_flagTwice d_width d_precision d_conversion d_next  out c_figures_digits c_figures_count c_behind c_withExponent x3 x4 (1 : Int32) hf _ _ hw _ hl
set_option maxHeartbeats 4000000 in
set_option maxRecDepth 100000 in
theorem c_Composer_roundFor (l : Launch) {Z : (Nat → Prop) → State → Heap → Prop} {ad adK adV : Nat → Nat} (Zo : mm_Zx Z ad adK adV) (dC : Nat → ClassId) (dI : Nat → Nat → Nat) (cC cI cJ cQ : ClassId) (N : Nat) (c_paper_kept_n : Nat) (c_paper_kept : Nat → Int32) (c_paper_length : Int32) (c_figures_digits_n : Nat) (c_figures_digits : Nat → Int32) (c_figures_count : Int32) (c_figures_scale : Int32) (c_start : Int32) (c_zerosAt : Int32) (c_behind : Int32) (c_withExponent : Int32) (d_index : Int32) (d_flags : Int32) (d_flagTwice : Int32) (d_width : Int32) (d_precision : Int32) (d_conversion : Int32) (d_next : Int32) (h_c h_c_paper h_c_paper_kept h_c_figures h_c_figures_digits h_d : Nat) (sz : Nat) (out : (Nat → Int32) × Int32 × Int32 × Int32) (hf : f_Composer_roundFor N c_figures_digits_n c_figures_digits c_figures_count c_figures_scale c_behind d_precision d_conversion = some out) : Met l y_Composer_roundFor w_Composer_roundFor r_Composer_roundFor (mm_pre (dC, dI) vwC (tyl cC cI cJ cQ) Z [(h_c, .inr (4, [.ref h_c_paper, .ref h_c_figures, .int c_start, .int c_zerosAt, .int c_behind, .int c_withExponent])), (h_c_paper, .inr (0, [.ref h_c_paper_kept, .int c_paper_length])), (h_c_paper_kept, .inl (cC, c_paper_kept_n, .inl c_paper_kept)), (h_c_figures, .inr (1, [.ref h_c_figures_digits, .int c_figures_count, .int c_figures_scale])), (h_c_figures_digits, .inl (cI, c_figures_digits_n, .inl c_figures_digits)), (h_d, .inr (2, [.int d_index, .int d_flags, .int d_flagTwice, .int d_width, .int d_precision, .int d_conversion, .int d_next]))] sz [.ref h_c, .ref h_d]) (mm_qv (dC, dI) vwC (tyl cC cI cJ cQ) (va_A [(h_c, .inr (4, [.ref h_c_paper, .ref h_c_figures, .int c_start, .int c_zerosAt, .int c_behind, .int c_withExponent])), (h_c_paper, .inr (0, [.ref h_c_paper_kept, .int c_paper_length])), (h_c_paper_kept, .inl (cC, c_paper_kept_n, .inl c_paper_kept)), (h_c_figures, .inr (1, [.ref h_c_figures_digits, .int c_figures_count, .int c_figures_scale])), (h_c_figures_digits, .inl (cI, c_figures_digits_n, .inl c_figures_digits)), (h_d, .inr (2, [.int d_index, .int d_flags, .int d_flagTwice, .int d_width, .int d_precision, .int d_conversion, .int d_next]))] sz) [(h_c, .inr (4, [.ref h_c_paper, .ref h_c_figures, .int c_start, .int c_zerosAt, .int out.2.2.1, .int out.2.2.2])), (h_c_paper, .inr (0, [.ref h_c_paper_kept, .int c_paper_length])), (h_c_paper_kept, .inl (cC, c_paper_kept_n, .inl c_paper_kept)), (h_c_figures, .inr (1, [.ref h_c_figures_digits, .int out.2.1, .int c_figures_scale])), (h_c_figures_digits, .inl (cI, c_figures_digits_n, .inl out.1)), (h_d, .inr (2, [.int d_index, .int d_flags, .int d_flagTwice, .int d_width, .int d_precision, .int d_conversion, .int d_next]))]) 0 0 (va_A [(h_c, .inr (4, [.ref h_c_paper, .ref h_c_figures, .int c_start, .int c_zerosAt, .int c_behind, .int c_withExponent])), (h_c_paper, .inr (0, [.ref h_c_paper_kept, .int c_paper_length])), (h_c_paper_kept, .inl (cC, c_paper_kept_n, .inl c_paper_kept)), (h_c_figures, .inr (1, [.ref h_c_figures_digits, .int c_figures_count, .int c_figures_scale])), (h_c_figures_digits, .inl (cI, c_figures_digits_n, .inl c_figures_digits)), (h_d, .inr (2, [.int d_index, .int d_flags, .int d_flagTwice, .int d_width, .int d_precision, .int d_conversion, .int d_next]))] sz) := by
  refine mm_of (own := "DirectivePrinter$Composer") (cc := b_Composer_roundFor) (maxL := 5) (ret := none) (by decide) rfl rfl ?_
  intro p e s m below meth c hsz C0 hw hname
  generalize (va_A [(h_c, .inr (4, [.ref h_c_paper, .ref h_c_figures, .int c_start, .int c_zerosAt, .int c_behind, .int c_withExponent])), (h_c_paper, .inr (0, [.ref h_c_paper_kept, .int c_paper_length])), (h_c_paper_kept, .inl (cC, c_paper_kept_n, .inl c_paper_kept)), (h_c_figures, .inr (1, [.ref h_c_figures_digits, .int c_figures_count, .int c_figures_scale])), (h_c_figures_digits, .inl (cI, c_figures_digits_n, .inl c_figures_digits)), (h_d, .inr (2, [.int d_index, .int d_flags, .int d_flagTwice, .int d_width, .int d_precision, .int d_conversion, .int d_next]))] sz) = A at C0 hw ⊢
  have hl := lv_entry ([.ref h_c, .ref h_d]) (n := 5) (Nat.le_of_ble_eq_true rfl)
  rw [lg_entry_eq]
  generalize (lg_sl ([.ref h_c, .ref h_d]) ++ List.replicate (5 - (lg_sl ([.ref h_c, .ref h_d])).length) Slot.unset).toArray = ls at hl ⊢
  have hl : lv_has ls 5 [(0, .ref h_c), (1, .ref h_d)] := hl
  obtain ⟨hx, hb, hr, hml, hown, hts, hlocks, hK, hZ, hA⟩ := id C0
  generalize s.heap = H at hw ⊢
  unfold f_Composer_roundFor at hf
  refine lv_aload_n hx hb d_Composer_roundFor_0 rfl (lv_at hl 1 rfl) ?_
  refine lv_bipush (v := (6 : Int32)) hx hb d_Composer_roundFor_1 (by decide) ?_
  obtain ⟨r_1, hu, hf⟩ := mm_b1_ok hf
  refine mm_ci (wr := [(h_c, .inr (4, [.ref h_c_paper, .ref h_c_figures, .int c_start, .int c_zerosAt, .int c_behind, .int c_withExponent])), (h_c_paper, .inr (0, [.ref h_c_paper_kept, .int c_paper_length])), (h_c_paper_kept, .inl (cC, c_paper_kept_n, .inl c_paper_kept)), (h_c_figures, .inr (1, [.ref h_c_figures_digits, .int c_figures_count, .int c_figures_scale])), (h_c_figures_digits, .inl (cI, c_figures_digits_n, .inl c_figures_digits))]) (va_runV (As := [.int (6 : Int32)]) (rest := []) ⟨hx, hb, hml, hown, hts⟩ (c_Directive_precisionOr l Zo dC dI cC cI cJ cQ d_index d_flags d_flagTwice d_width d_precision d_conversion d_next (6 : Int32) h_d H.size r_1 hu) (cwV 1 hts (mm_gV q_576 q_577 q_578 q_60 q_579) rfl rfl rfl (by decide +kernel) ⟨Nat.le_of_ble_eq_true rfl, Nat.le_of_ble_eq_true rfl⟩) (mm_pv Zo.1 hK hw hZ hA [5] (by decide) rfl rfl (ci := 2) (q0 := 0) rfl rfl) rfl rfl hl.1 rfl (lv_room (Nat.le_of_ble_eq_true rfl)) d_Composer_roundFor_3 ⟨Nat.le_refl _, Nat.le_refl _⟩) hw hA [5] [0, 1, 2, 3, 4] rfl rfl (by decide) (by decide) (fun H locs hw => ?_)
  have hw : mm_w (dC, dI) vwC A s [(h_c, .inr (4, [.ref h_c_paper, .ref h_c_figures, .int c_start, .int c_zerosAt, .int c_behind, .int c_withExponent])), (h_c_paper, .inr (0, [.ref h_c_paper_kept, .int c_paper_length])), (h_c_paper_kept, .inl (cC, c_paper_kept_n, .inl c_paper_kept)), (h_c_figures, .inr (1, [.ref h_c_figures_digits, .int c_figures_count, .int c_figures_scale])), (h_c_figures_digits, .inl (cI, c_figures_digits_n, .inl c_figures_digits)), (h_d, .inr (2, [.int d_index, .int d_flags, .int d_flagTwice, .int d_width, .int d_precision, .int d_conversion, .int d_next]))] H locs := hw
  refine lv_istore_n (lv' := [(2, .int r_1), (0, .ref h_c), (1, .ref h_d)]) hx hb d_Composer_roundFor_6 rfl hl (by decide) rfl (fun ls hl => ?_)
  refine lv_aload_n hx hb d_Composer_roundFor_7 rfl (lv_at hl 1 rfl) ?_
  refine lv_iconst (v := (0 : Int32)) hx hb d_Composer_roundFor_8 (by decide) ?_
  refine va_put (D := (dC, dI)) (ci := 4) (v := .int (0 : Int32)) (ty := .boolean) (C := "DirectivePrinter$Composer") (T := T_Composer) (N := 6) hx hb hts (mm_up i_Composer) t_Composer t_Composer_ok n_Composer hown hK hw.1 hw.2.1 hw.2.2 0 rfl rfl 5 (by decide) (hts _ (List.mem_cons_of_mem _ q_193)) (fun _ h9 => h9) rfl (by decide +kernel) (by decide) (by decide) (Nat.le_of_ble_eq_true rfl) d_Composer_roundFor_9 (fun H locs hP hD hS => ?_)
  have hw : mm_w (dC, dI) vwC A s [(h_c, .inr (4, [.ref h_c_paper, .ref h_c_figures, .int c_start, .int c_zerosAt, .int c_behind, .int (0 : Int32)])), (h_c_paper, .inr (0, [.ref h_c_paper_kept, .int c_paper_length])), (h_c_paper_kept, .inl (cC, c_paper_kept_n, .inl c_paper_kept)), (h_c_figures, .inr (1, [.ref h_c_figures_digits, .int c_figures_count, .int c_figures_scale])), (h_c_figures_digits, .inl (cI, c_figures_digits_n, .inl c_figures_digits)), (h_d, .inr (2, [.int d_index, .int d_flags, .int d_flagTwice, .int d_width, .int d_precision, .int d_conversion, .int d_next]))] H locs := ⟨hP, hD, hS⟩
  refine lv_aload_n hx hb d_Composer_roundFor_12 rfl (lv_at hl 2 rfl) ?_
  obtain ⟨r_2, hu, hf⟩ := mm_b1_ok hf
  refine mm_ci (wr := [(h_c, .inr (4, [.ref h_c_paper, .ref h_c_figures, .int c_start, .int c_zerosAt, .int c_behind, .int (0 : Int32)])), (h_c_paper, .inr (0, [.ref h_c_paper_kept, .int c_paper_length])), (h_c_paper_kept, .inl (cC, c_paper_kept_n, .inl c_paper_kept)), (h_c_figures, .inr (1, [.ref h_c_figures_digits, .int c_figures_count, .int c_figures_scale])), (h_c_figures_digits, .inl (cI, c_figures_digits_n, .inl c_figures_digits))]) (va_runV (As := []) (rest := []) ⟨hx, hb, hml, hown, hts⟩ (c_Directive_smallConversion l Zo dC dI cC cI cJ cQ d_index d_flags d_flagTwice d_width d_precision d_conversion d_next h_d H.size r_2 hu) (cwV 0 hts (mm_gV q_457 q_412 q_413 q_60 q_414) rfl rfl rfl (by decide +kernel) ⟨Nat.le_of_ble_eq_true rfl, Nat.le_of_ble_eq_true rfl⟩) (mm_pv Zo.1 hK hw hZ hA [5] (by decide) rfl rfl (ci := 2) (q0 := 0) rfl rfl) rfl rfl hl.1 rfl (lv_room (Nat.le_of_ble_eq_true rfl)) d_Composer_roundFor_13 ⟨Nat.le_refl _, Nat.le_refl _⟩) hw hA [5] [0, 1, 2, 3, 4] rfl rfl (by decide) (by decide) (fun H locs hw => ?_)
  have hw : mm_w (dC, dI) vwC A s [(h_c, .inr (4, [.ref h_c_paper, .ref h_c_figures, .int c_start, .int c_zerosAt, .int c_behind, .int (0 : Int32)])), (h_c_paper, .inr (0, [.ref h_c_paper_kept, .int c_paper_length])), (h_c_paper_kept, .inl (cC, c_paper_kept_n, .inl c_paper_kept)), (h_c_figures, .inr (1, [.ref h_c_figures_digits, .int c_figures_count, .int c_figures_scale])), (h_c_figures_digits, .inl (cI, c_figures_digits_n, .inl c_figures_digits)), (h_d, .inr (2, [.int d_index, .int d_flags, .int d_flagTwice, .int d_width, .int d_precision, .int d_conversion, .int d_next]))] H locs := hw
  by_cases hc_100 : r_2 = (100 : Int32)
  · replace hf := mm_ip hc_100 hf
    refine lv_tableIn (off := 28) (tgt := 44) hx hb d_Composer_roundFor_16 (by rw [hc_100]; decide) (by rw [hc_100]; decide) (by rw [hc_100]; decide) (by decide) ?_
    refine lv_aload_n hx hb d_Composer_roundFor_44 rfl (lv_at hl 1 rfl) ?_
    refine lv_iconst (v := (0 : Int32)) hx hb d_Composer_roundFor_45 (by decide) ?_
    refine va_put (D := (dC, dI)) (ci := 4) (v := .int (0 : Int32)) (ty := .int) (C := "DirectivePrinter$Composer") (T := T_Composer) (N := 6) hx hb hts (mm_up i_Composer) t_Composer t_Composer_ok n_Composer hown hK hw.1 hw.2.1 hw.2.2 0 rfl rfl 4 (by decide) (hts _ (List.mem_cons_of_mem _ q_192)) (fun _ h9 => h9) rfl (by decide +kernel) rfl rfl (Nat.le_of_ble_eq_true rfl) d_Composer_roundFor_46 (fun H locs hP hD hS => ?_)
    have hw : mm_w (dC, dI) vwC A s [(h_c, .inr (4, [.ref h_c_paper, .ref h_c_figures, .int c_start, .int c_zerosAt, .int (0 : Int32), .int (0 : Int32)])), (h_c_paper, .inr (0, [.ref h_c_paper_kept, .int c_paper_length])), (h_c_paper_kept, .inl (cC, c_paper_kept_n, .inl c_paper_kept)), (h_c_figures, .inr (1, [.ref h_c_figures_digits, .int c_figures_count, .int c_figures_scale])), (h_c_figures_digits, .inl (cI, c_figures_digits_n, .inl c_figures_digits)), (h_d, .inr (2, [.int d_index, .int d_flags, .int d_flagTwice, .int d_width, .int d_precision, .int d_conversion, .int d_next]))] H locs := ⟨hP, hD, hS⟩
    refine lv_goto (tgt := 176) hx hb d_Composer_roundFor_49 (by decide) ?_
    obtain rfl := Option.some.inj hf
    exact mm_vret hx hb hr hlocks hK (mm_wsub hw [0, 1, 2, 3, 4, 5] (by decide) rfl rfl) d_Composer_roundFor_176
  replace hf := mm_in hc_100 hf
  by_cases hc_101 : r_2 = (101 : Int32)
  · replace hf := mm_ip hc_101 hf
    refine lv_tableIn (off := 53) (tgt := 69) hx hb d_Composer_roundFor_16 (by rw [hc_101]; decide) (by rw [hc_101]; decide) (by rw [hc_101]; decide) (by decide) ?_
    refine lv_aload_n hx hb d_Composer_roundFor_69 rfl (lv_at hl 1 rfl) ?_
    refine lv_iload_n hx hb d_Composer_roundFor_70 rfl (lv_at hl 0 rfl) ?_
    refine va_put (D := (dC, dI)) (ci := 4) (v := .int r_1) (ty := .int) (C := "DirectivePrinter$Composer") (T := T_Composer) (N := 6) hx hb hts (mm_up i_Composer) t_Composer t_Composer_ok n_Composer hown hK hw.1 hw.2.1 hw.2.2 0 rfl rfl 4 (by decide) (hts _ (List.mem_cons_of_mem _ q_192)) (fun _ h9 => h9) rfl (by decide +kernel) rfl rfl (Nat.le_of_ble_eq_true rfl) d_Composer_roundFor_71 (fun H locs hP hD hS => ?_)
    have hw : mm_w (dC, dI) vwC A s [(h_c, .inr (4, [.ref h_c_paper, .ref h_c_figures, .int c_start, .int c_zerosAt, .int r_1, .int (0 : Int32)])), (h_c_paper, .inr (0, [.ref h_c_paper_kept, .int c_paper_length])), (h_c_paper_kept, .inl (cC, c_paper_kept_n, .inl c_paper_kept)), (h_c_figures, .inr (1, [.ref h_c_figures_digits, .int c_figures_count, .int c_figures_scale])), (h_c_figures_digits, .inl (cI, c_figures_digits_n, .inl c_figures_digits)), (h_d, .inr (2, [.int d_index, .int d_flags, .int d_flagTwice, .int d_width, .int d_precision, .int d_conversion, .int d_next]))] H locs := ⟨hP, hD, hS⟩
    refine lv_aload_n hx hb d_Composer_roundFor_74 rfl (lv_at hl 1 rfl) ?_
    refine lv_iconst (v := (1 : Int32)) hx hb d_Composer_roundFor_75 (by decide) ?_
    refine va_put (D := (dC, dI)) (ci := 4) (v := .int (1 : Int32)) (ty := .boolean) (C := "DirectivePrinter$Composer") (T := T_Composer) (N := 6) hx hb hts (mm_up i_Composer) t_Composer t_Composer_ok n_Composer hown hK hw.1 hw.2.1 hw.2.2 0 rfl rfl 5 (by decide) (hts _ (List.mem_cons_of_mem _ q_193)) (fun _ h9 => h9) rfl (by decide +kernel) (by decide) (by decide) (Nat.le_of_ble_eq_true rfl) d_Composer_roundFor_76 (fun H locs hP hD hS => ?_)
    have hw : mm_w (dC, dI) vwC A s [(h_c, .inr (4, [.ref h_c_paper, .ref h_c_figures, .int c_start, .int c_zerosAt, .int r_1, .int (1 : Int32)])), (h_c_paper, .inr (0, [.ref h_c_paper_kept, .int c_paper_length])), (h_c_paper_kept, .inl (cC, c_paper_kept_n, .inl c_paper_kept)), (h_c_figures, .inr (1, [.ref h_c_figures_digits, .int c_figures_count, .int c_figures_scale])), (h_c_figures_digits, .inl (cI, c_figures_digits_n, .inl c_figures_digits)), (h_d, .inr (2, [.int d_index, .int d_flags, .int d_flagTwice, .int d_width, .int d_precision, .int d_conversion, .int d_next]))] H locs := ⟨hP, hD, hS⟩
    refine lv_aload_n hx hb d_Composer_roundFor_79 rfl (lv_at hl 1 rfl) ?_
    refine va_get (D := (dC, dI)) (ci := 4) (v := .ref h_c_figures) (C := "DirectivePrinter$Composer") (T := T_Composer) (N := 6) hx hb hts (mm_up i_Composer) hown hK hw.1 0 rfl rfl 1 (by decide) (hts _ (List.mem_cons_of_mem _ q_189)) (fun _ h9 => h9) rfl d_Composer_roundFor_80 ?_
    refine lv_aload_n hx hb d_Composer_roundFor_83 rfl (lv_at hl 1 rfl) ?_
    refine va_get (D := (dC, dI)) (ci := 4) (v := .ref h_c_figures) (C := "DirectivePrinter$Composer") (T := T_Composer) (N := 6) hx hb hts (mm_up i_Composer) hown hK hw.1 0 rfl rfl 1 (by decide) (hts _ (List.mem_cons_of_mem _ q_189)) (fun _ h9 => h9) rfl d_Composer_roundFor_84 ?_
    obtain ⟨r_3, hu, hf⟩ := mm_b1_ok hf
    refine mm_ci (wr := [(h_c, .inr (4, [.ref h_c_paper, .ref h_c_figures, .int c_start, .int c_zerosAt, .int r_1, .int (1 : Int32)])), (h_c_paper, .inr (0, [.ref h_c_paper_kept, .int c_paper_length])), (h_c_paper_kept, .inl (cC, c_paper_kept_n, .inl c_paper_kept)), (h_d, .inr (2, [.int d_index, .int d_flags, .int d_flagTwice, .int d_width, .int d_precision, .int d_conversion, .int d_next]))]) (va_runV (As := []) (rest := [.ref h_c_figures]) ⟨hx, hb, hml, hown, hts⟩ (c_Figures_top l Zo dC dI cC cI cJ cQ c_figures_digits_n c_figures_digits c_figures_count c_figures_scale h_c_figures h_c_figures_digits H.size r_3 hu) (cwV 0 hts (mm_gV q_532 q_533 q_534 q_62 q_535) rfl rfl rfl (by decide +kernel) ⟨Nat.le_of_ble_eq_true rfl, Nat.le_of_ble_eq_true rfl⟩) (mm_pv Zo.1 hK hw hZ hA [3, 4] (by decide) rfl rfl (ci := 1) (q0 := 0) rfl rfl) rfl rfl hl.1 rfl (lv_room (Nat.le_of_ble_eq_true rfl)) d_Composer_roundFor_87 ⟨Nat.le_refl _, Nat.le_refl _⟩) hw hA [3, 4] [0, 1, 2, 5] rfl rfl (by decide) (by decide) (fun H locs hw => ?_)
    have hw : mm_w (dC, dI) vwC A s [(h_c, .inr (4, [.ref h_c_paper, .ref h_c_figures, .int c_start, .int c_zerosAt, .int r_1, .int (1 : Int32)])), (h_c_paper, .inr (0, [.ref h_c_paper_kept, .int c_paper_length])), (h_c_paper_kept, .inl (cC, c_paper_kept_n, .inl c_paper_kept)), (h_d, .inr (2, [.int d_index, .int d_flags, .int d_flagTwice, .int d_width, .int d_precision, .int d_conversion, .int d_next])), (h_c_figures, .inr (1, [.ref h_c_figures_digits, .int c_figures_count, .int c_figures_scale])), (h_c_figures_digits, .inl (cI, c_figures_digits_n, .inl c_figures_digits))] H locs := hw
    refine lv_iload_n hx hb d_Composer_roundFor_90 rfl (lv_at hl 0 rfl) ?_
    refine lv_isub hx hb d_Composer_roundFor_91 ?_
    obtain ⟨o_4, o_5, hu, hf⟩ := mm_b2_ok hf
    refine mm_cv (wr := [(h_c, .inr (4, [.ref h_c_paper, .ref h_c_figures, .int c_start, .int c_zerosAt, .int r_1, .int (1 : Int32)])), (h_c_paper, .inr (0, [.ref h_c_paper_kept, .int c_paper_length])), (h_c_paper_kept, .inl (cC, c_paper_kept_n, .inl c_paper_kept)), (h_d, .inr (2, [.int d_index, .int d_flags, .int d_flagTwice, .int d_width, .int d_precision, .int d_conversion, .int d_next]))]) (va_runV (As := [.int (r_3 - r_1)]) (rest := []) ⟨hx, hb, hml, hown, hts⟩ (c_Figures_roundTo l Zo dC dI cC cI cJ cQ N c_figures_digits_n c_figures_digits c_figures_count c_figures_scale (r_3 - r_1) h_c_figures h_c_figures_digits H.size (o_4, o_5) hu) (cwV 1 hts (mm_gV q_580 q_581 q_582 q_62 q_583) rfl rfl rfl (by decide +kernel) ⟨Nat.le_of_ble_eq_true rfl, Nat.le_of_ble_eq_true rfl⟩) (mm_pv Zo.1 hK hw hZ hA [4, 5] (by decide) rfl rfl (ci := 1) (q0 := 0) rfl rfl) rfl rfl hl.1 rfl (lv_room (Nat.le_of_ble_eq_true rfl)) d_Composer_roundFor_92 ⟨Nat.le_refl _, Nat.le_refl _⟩) hw hA [4, 5] [0, 1, 2, 3] rfl rfl (by decide) (by decide) (fun H locs hw => ?_)
    have hw : mm_w (dC, dI) vwC A s [(h_c, .inr (4, [.ref h_c_paper, .ref h_c_figures, .int c_start, .int c_zerosAt, .int r_1, .int (1 : Int32)])), (h_c_paper, .inr (0, [.ref h_c_paper_kept, .int c_paper_length])), (h_c_paper_kept, .inl (cC, c_paper_kept_n, .inl c_paper_kept)), (h_d, .inr (2, [.int d_index, .int d_flags, .int d_flagTwice, .int d_width, .int d_precision, .int d_conversion, .int d_next])), (h_c_figures, .inr (1, [.ref h_c_figures_digits, .int o_5, .int c_figures_scale])), (h_c_figures_digits, .inl (cI, c_figures_digits_n, .inl o_4))] H locs := hw
    refine lv_goto (tgt := 176) hx hb d_Composer_roundFor_95 (by decide) ?_
    obtain rfl := Option.some.inj hf
    exact mm_vret hx hb hr hlocks hK (mm_wsub hw [0, 1, 2, 4, 5, 3] (by decide) rfl rfl) d_Composer_roundFor_176
  replace hf := mm_in hc_101 hf
  by_cases hc_102 : r_2 = (102 : Int32)
  · replace hf := mm_ip hc_102 hf
    refine lv_tableIn (off := 36) (tgt := 52) hx hb d_Composer_roundFor_16 (by rw [hc_102]; decide) (by rw [hc_102]; decide) (by rw [hc_102]; decide) (by decide) ?_
    refine lv_aload_n hx hb d_Composer_roundFor_52 rfl (lv_at hl 1 rfl) ?_
    refine lv_iload_n hx hb d_Composer_roundFor_53 rfl (lv_at hl 0 rfl) ?_
    refine va_put (D := (dC, dI)) (ci := 4) (v := .int r_1) (ty := .int) (C := "DirectivePrinter$Composer") (T := T_Composer) (N := 6) hx hb hts (mm_up i_Composer) t_Composer t_Composer_ok n_Composer hown hK hw.1 hw.2.1 hw.2.2 0 rfl rfl 4 (by decide) (hts _ (List.mem_cons_of_mem _ q_192)) (fun _ h9 => h9) rfl (by decide +kernel) rfl rfl (Nat.le_of_ble_eq_true rfl) d_Composer_roundFor_54 (fun H locs hP hD hS => ?_)
    have hw : mm_w (dC, dI) vwC A s [(h_c, .inr (4, [.ref h_c_paper, .ref h_c_figures, .int c_start, .int c_zerosAt, .int r_1, .int (0 : Int32)])), (h_c_paper, .inr (0, [.ref h_c_paper_kept, .int c_paper_length])), (h_c_paper_kept, .inl (cC, c_paper_kept_n, .inl c_paper_kept)), (h_c_figures, .inr (1, [.ref h_c_figures_digits, .int c_figures_count, .int c_figures_scale])), (h_c_figures_digits, .inl (cI, c_figures_digits_n, .inl c_figures_digits)), (h_d, .inr (2, [.int d_index, .int d_flags, .int d_flagTwice, .int d_width, .int d_precision, .int d_conversion, .int d_next]))] H locs := ⟨hP, hD, hS⟩
    refine lv_aload_n hx hb d_Composer_roundFor_57 rfl (lv_at hl 1 rfl) ?_
    refine va_get (D := (dC, dI)) (ci := 4) (v := .ref h_c_figures) (C := "DirectivePrinter$Composer") (T := T_Composer) (N := 6) hx hb hts (mm_up i_Composer) hown hK hw.1 0 rfl rfl 1 (by decide) (hts _ (List.mem_cons_of_mem _ q_189)) (fun _ h9 => h9) rfl d_Composer_roundFor_58 ?_
    refine lv_iload_n hx hb d_Composer_roundFor_61 rfl (lv_at hl 0 rfl) ?_
    refine lv_ineg hx hb d_Composer_roundFor_62 ?_
    obtain ⟨o_6, o_7, hu, hf⟩ := mm_b2_ok hf
    refine mm_cv (wr := [(h_c, .inr (4, [.ref h_c_paper, .ref h_c_figures, .int c_start, .int c_zerosAt, .int r_1, .int (0 : Int32)])), (h_c_paper, .inr (0, [.ref h_c_paper_kept, .int c_paper_length])), (h_c_paper_kept, .inl (cC, c_paper_kept_n, .inl c_paper_kept)), (h_d, .inr (2, [.int d_index, .int d_flags, .int d_flagTwice, .int d_width, .int d_precision, .int d_conversion, .int d_next]))]) (va_runV (As := [.int (-r_1)]) (rest := []) ⟨hx, hb, hml, hown, hts⟩ (c_Figures_roundTo l Zo dC dI cC cI cJ cQ N c_figures_digits_n c_figures_digits c_figures_count c_figures_scale (-r_1) h_c_figures h_c_figures_digits H.size (o_6, o_7) hu) (cwV 1 hts (mm_gV q_580 q_581 q_582 q_62 q_583) rfl rfl rfl (by decide +kernel) ⟨Nat.le_of_ble_eq_true rfl, Nat.le_of_ble_eq_true rfl⟩) (mm_pv Zo.1 hK hw hZ hA [3, 4] (by decide) rfl rfl (ci := 1) (q0 := 0) rfl rfl) rfl rfl hl.1 rfl (lv_room (Nat.le_of_ble_eq_true rfl)) d_Composer_roundFor_63 ⟨Nat.le_refl _, Nat.le_refl _⟩) hw hA [3, 4] [0, 1, 2, 5] rfl rfl (by decide) (by decide) (fun H locs hw => ?_)
    have hw : mm_w (dC, dI) vwC A s [(h_c, .inr (4, [.ref h_c_paper, .ref h_c_figures, .int c_start, .int c_zerosAt, .int r_1, .int (0 : Int32)])), (h_c_paper, .inr (0, [.ref h_c_paper_kept, .int c_paper_length])), (h_c_paper_kept, .inl (cC, c_paper_kept_n, .inl c_paper_kept)), (h_d, .inr (2, [.int d_index, .int d_flags, .int d_flagTwice, .int d_width, .int d_precision, .int d_conversion, .int d_next])), (h_c_figures, .inr (1, [.ref h_c_figures_digits, .int o_7, .int c_figures_scale])), (h_c_figures_digits, .inl (cI, c_figures_digits_n, .inl o_6))] H locs := hw
    refine lv_goto (tgt := 176) hx hb d_Composer_roundFor_66 (by decide) ?_
    obtain rfl := Option.some.inj hf
    exact mm_vret hx hb hr hlocks hK (mm_wsub hw [0, 1, 2, 4, 5, 3] (by decide) rfl rfl) d_Composer_roundFor_176
  replace hf := mm_in hc_102 hf
  have ho : r_2.toInt < 100 ∨ 102 < r_2.toInt := by
    have n100 : r_2.toInt ≠ 100 := fun q => hc_100 (Int32.toInt_inj.mp q)
    have n101 : r_2.toInt ≠ 101 := fun q => hc_101 (Int32.toInt_inj.mp q)
    have n102 : r_2.toInt ≠ 102 := fun q => hc_102 (Int32.toInt_inj.mp q)
    omega
  refine lv_tableOut (tgt := 98) hx hb d_Composer_roundFor_16 ho (by decide) ?_
  refine lv_iload_n hx hb d_Composer_roundFor_98 rfl (lv_at hl 0 rfl) ?_
  refine lv_iconst (v := (1 : Int32)) hx hb d_Composer_roundFor_99 (by decide) ?_
  refine va_mmax hx hb (hml.trans hl.1.symm) hown (hts _ (List.mem_cons_of_mem _ q_536)) (hts _ (List.mem_cons_of_mem _ q_89)) (hts _ (List.mem_cons_of_mem _ q_56)) (hts _ (List.mem_cons_of_mem _ q_90)) (Nat.le_of_ble_eq_true rfl) (Nat.le_of_ble_eq_true rfl) (Nat.zero_le _) (Nat.zero_le _) d_Composer_roundFor_100 ?_
  refine lv_istore_n (lv' := [(3, .int (if r_1 < (1 : Int32) then (1 : Int32) else r_1)), (2, .int r_1), (0, .ref h_c), (1, .ref h_d)]) hx hb d_Composer_roundFor_103 rfl hl (by decide) rfl (fun ls hl => ?_)
  refine lv_aload_n hx hb d_Composer_roundFor_104 rfl (lv_at hl 2 rfl) ?_
  refine va_get (D := (dC, dI)) (ci := 4) (v := .ref h_c_figures) (C := "DirectivePrinter$Composer") (T := T_Composer) (N := 6) hx hb hts (mm_up i_Composer) hown hK hw.1 0 rfl rfl 1 (by decide) (hts _ (List.mem_cons_of_mem _ q_189)) (fun _ h9 => h9) rfl d_Composer_roundFor_105 ?_
  refine lv_aload_n hx hb d_Composer_roundFor_108 rfl (lv_at hl 2 rfl) ?_
  refine va_get (D := (dC, dI)) (ci := 4) (v := .ref h_c_figures) (C := "DirectivePrinter$Composer") (T := T_Composer) (N := 6) hx hb hts (mm_up i_Composer) hown hK hw.1 0 rfl rfl 1 (by decide) (hts _ (List.mem_cons_of_mem _ q_189)) (fun _ h9 => h9) rfl d_Composer_roundFor_109 ?_
  obtain ⟨r_8, hu, hf⟩ := mm_b1_ok hf
  refine mm_ci (wr := [(h_c, .inr (4, [.ref h_c_paper, .ref h_c_figures, .int c_start, .int c_zerosAt, .int c_behind, .int (0 : Int32)])), (h_c_paper, .inr (0, [.ref h_c_paper_kept, .int c_paper_length])), (h_c_paper_kept, .inl (cC, c_paper_kept_n, .inl c_paper_kept)), (h_d, .inr (2, [.int d_index, .int d_flags, .int d_flagTwice, .int d_width, .int d_precision, .int d_conversion, .int d_next]))]) (va_runV (As := []) (rest := [.ref h_c_figures]) ⟨hx, hb, hml, hown, hts⟩ (c_Figures_top l Zo dC dI cC cI cJ cQ c_figures_digits_n c_figures_digits c_figures_count c_figures_scale h_c_figures h_c_figures_digits H.size r_8 hu) (cwV 0 hts (mm_gV q_532 q_533 q_534 q_62 q_535) rfl rfl rfl (by decide +kernel) ⟨Nat.le_of_ble_eq_true rfl, Nat.le_of_ble_eq_true rfl⟩) (mm_pv Zo.1 hK hw hZ hA [3, 4] (by decide) rfl rfl (ci := 1) (q0 := 0) rfl rfl) rfl rfl hl.1 rfl (lv_room (Nat.le_of_ble_eq_true rfl)) d_Composer_roundFor_112 ⟨Nat.le_refl _, Nat.le_refl _⟩) hw hA [3, 4] [0, 1, 2, 5] rfl rfl (by decide) (by decide) (fun H locs hw => ?_)
  have hw : mm_w (dC, dI) vwC A s [(h_c, .inr (4, [.ref h_c_paper, .ref h_c_figures, .int c_start, .int c_zerosAt, .int c_behind, .int (0 : Int32)])), (h_c_paper, .inr (0, [.ref h_c_paper_kept, .int c_paper_length])), (h_c_paper_kept, .inl (cC, c_paper_kept_n, .inl c_paper_kept)), (h_d, .inr (2, [.int d_index, .int d_flags, .int d_flagTwice, .int d_width, .int d_precision, .int d_conversion, .int d_next])), (h_c_figures, .inr (1, [.ref h_c_figures_digits, .int c_figures_count, .int c_figures_scale])), (h_c_figures_digits, .inl (cI, c_figures_digits_n, .inl c_figures_digits))] H locs := hw
  refine lv_iload_n hx hb d_Composer_roundFor_115 rfl (lv_at hl 0 rfl) ?_
  refine lv_iconst (v := (1 : Int32)) hx hb d_Composer_roundFor_116 (by decide) ?_
  refine lv_isub hx hb d_Composer_roundFor_117 ?_
  refine lv_isub hx hb d_Composer_roundFor_118 ?_
  obtain ⟨o_9, o_10, hu, hf⟩ := mm_b2_ok hf
  refine mm_cv (wr := [(h_c, .inr (4, [.ref h_c_paper, .ref h_c_figures, .int c_start, .int c_zerosAt, .int c_behind, .int (0 : Int32)])), (h_c_paper, .inr (0, [.ref h_c_paper_kept, .int c_paper_length])), (h_c_paper_kept, .inl (cC, c_paper_kept_n, .inl c_paper_kept)), (h_d, .inr (2, [.int d_index, .int d_flags, .int d_flagTwice, .int d_width, .int d_precision, .int d_conversion, .int d_next]))]) (va_runV (As := [.int (r_8 - ((if r_1 < (1 : Int32) then (1 : Int32) else r_1) - (1 : Int32)))]) (rest := []) ⟨hx, hb, hml, hown, hts⟩ (c_Figures_roundTo l Zo dC dI cC cI cJ cQ N c_figures_digits_n c_figures_digits c_figures_count c_figures_scale (r_8 - ((if r_1 < (1 : Int32) then (1 : Int32) else r_1) - (1 : Int32))) h_c_figures h_c_figures_digits H.size (o_9, o_10) hu) (cwV 1 hts (mm_gV q_580 q_581 q_582 q_62 q_583) rfl rfl rfl (by decide +kernel) ⟨Nat.le_of_ble_eq_true rfl, Nat.le_of_ble_eq_true rfl⟩) (mm_pv Zo.1 hK hw hZ hA [4, 5] (by decide) rfl rfl (ci := 1) (q0 := 0) rfl rfl) rfl rfl hl.1 rfl (lv_room (Nat.le_of_ble_eq_true rfl)) d_Composer_roundFor_119 ⟨Nat.le_refl _, Nat.le_refl _⟩) hw hA [4, 5] [0, 1, 2, 3] rfl rfl (by decide) (by decide) (fun H locs hw => ?_)
  have hw : mm_w (dC, dI) vwC A s [(h_c, .inr (4, [.ref h_c_paper, .ref h_c_figures, .int c_start, .int c_zerosAt, .int c_behind, .int (0 : Int32)])), (h_c_paper, .inr (0, [.ref h_c_paper_kept, .int c_paper_length])), (h_c_paper_kept, .inl (cC, c_paper_kept_n, .inl c_paper_kept)), (h_d, .inr (2, [.int d_index, .int d_flags, .int d_flagTwice, .int d_width, .int d_precision, .int d_conversion, .int d_next])), (h_c_figures, .inr (1, [.ref h_c_figures_digits, .int o_10, .int c_figures_scale])), (h_c_figures_digits, .inl (cI, c_figures_digits_n, .inl o_9))] H locs := hw
  refine lv_aload_n hx hb d_Composer_roundFor_122 rfl (lv_at hl 2 rfl) ?_
  refine va_get (D := (dC, dI)) (ci := 4) (v := .ref h_c_figures) (C := "DirectivePrinter$Composer") (T := T_Composer) (N := 6) hx hb hts (mm_up i_Composer) hown hK hw.1 0 rfl rfl 1 (by decide) (hts _ (List.mem_cons_of_mem _ q_189)) (fun _ h9 => h9) rfl d_Composer_roundFor_123 ?_
  obtain ⟨r_11, hu, hf⟩ := mm_b1_ok hf
  refine mm_ci (wr := [(h_c, .inr (4, [.ref h_c_paper, .ref h_c_figures, .int c_start, .int c_zerosAt, .int c_behind, .int (0 : Int32)])), (h_c_paper, .inr (0, [.ref h_c_paper_kept, .int c_paper_length])), (h_c_paper_kept, .inl (cC, c_paper_kept_n, .inl c_paper_kept)), (h_d, .inr (2, [.int d_index, .int d_flags, .int d_flagTwice, .int d_width, .int d_precision, .int d_conversion, .int d_next]))]) (va_runV (As := []) (rest := []) ⟨hx, hb, hml, hown, hts⟩ (c_Figures_exponent l Zo dC dI cC cI cJ cQ c_figures_digits_n o_9 o_10 c_figures_scale h_c_figures h_c_figures_digits H.size r_11 hu) (cwV 0 hts (mm_gV q_590 q_591 q_592 q_62 q_593) rfl rfl rfl (by decide +kernel) ⟨Nat.le_of_ble_eq_true rfl, Nat.le_of_ble_eq_true rfl⟩) (mm_pv Zo.1 hK hw hZ hA [4, 5] (by decide) rfl rfl (ci := 1) (q0 := 0) rfl rfl) rfl rfl hl.1 rfl (lv_room (Nat.le_of_ble_eq_true rfl)) d_Composer_roundFor_126 ⟨Nat.le_refl _, Nat.le_refl _⟩) hw hA [4, 5] [0, 1, 2, 3] rfl rfl (by decide) (by decide) (fun H locs hw => ?_)
  have hw : mm_w (dC, dI) vwC A s [(h_c, .inr (4, [.ref h_c_paper, .ref h_c_figures, .int c_start, .int c_zerosAt, .int c_behind, .int (0 : Int32)])), (h_c_paper, .inr (0, [.ref h_c_paper_kept, .int c_paper_length])), (h_c_paper_kept, .inl (cC, c_paper_kept_n, .inl c_paper_kept)), (h_d, .inr (2, [.int d_index, .int d_flags, .int d_flagTwice, .int d_width, .int d_precision, .int d_conversion, .int d_next])), (h_c_figures, .inr (1, [.ref h_c_figures_digits, .int o_10, .int c_figures_scale])), (h_c_figures_digits, .inl (cI, c_figures_digits_n, .inl o_9))] H locs := hw
  refine lv_istore (lv' := [(4, .int r_11), (3, .int (if r_1 < (1 : Int32) then (1 : Int32) else r_1)), (2, .int r_1), (0, .ref h_c), (1, .ref h_d)]) hx hb d_Composer_roundFor_129 hl (by decide) rfl (fun ls hl => ?_)
  refine lv_aload_n hx hb d_Composer_roundFor_131 rfl (lv_at hl 3 rfl) ?_
  refine lv_iload hx hb d_Composer_roundFor_132 (lv_at hl 0 rfl) ?_
  refine lv_bipush (v := (-4 : Int32)) hx hb d_Composer_roundFor_134 (by decide) ?_
  refine lv_icmp_lt (tgt := 145) hx hb d_Composer_roundFor_136 (by decide) (fun hc => ?_) (fun hc => ?_)
  · replace hf := mm_ip hc hf
    exact b_Composer_roundFor_145 Zo C0 N c_paper_kept_n c_paper_kept c_paper_length c_figures_digits_n c_figures_scale c_start c_zerosAt d_index d_flags d_flagTwice d_width d_precision d_conversion d_next  out o_9 o_10 c_behind (0 : Int32) (if r_1 < (1 : Int32) then (1 : Int32) else r_1) r_11 hf _ _ (mm_wsub hw [0, 1, 2, 4, 5, 3] (by decide) rfl rfl) _ (lv_sub hl [3, 1, 0] rfl)
  · replace hf := mm_in hc hf
    refine lv_iload hx hb d_Composer_roundFor_139 (lv_at hl 0 rfl) ?_
    refine lv_iload_n hx hb d_Composer_roundFor_141 rfl (lv_at hl 1 rfl) ?_
    refine lv_icmp_lt (tgt := 149) hx hb d_Composer_roundFor_142 (by decide) (fun hc => ?_) (fun hc => ?_)
    · replace hf := mm_ip hc hf
      refine lv_iconst (v := (0 : Int32)) hx hb d_Composer_roundFor_149 (by decide) ?_
      exact b_Composer_roundFor_150 Zo C0 N c_paper_kept_n c_paper_kept c_paper_length c_figures_digits_n c_figures_scale c_start c_zerosAt d_index d_flags d_flagTwice d_width d_precision d_conversion d_next  out o_9 o_10 c_behind (0 : Int32) (if r_1 < (1 : Int32) then (1 : Int32) else r_1) r_11 (0 : Int32) hf _ _ (mm_wsub hw [0, 1, 2, 4, 5, 3] (by decide) rfl rfl) _ (lv_sub hl [3, 1, 0] rfl)
    · replace hf := mm_in hc hf
      exact b_Composer_roundFor_145 Zo C0 N c_paper_kept_n c_paper_kept c_paper_length c_figures_digits_n c_figures_scale c_start c_zerosAt d_index d_flags d_flagTwice d_width d_precision d_conversion d_next  out o_9 o_10 c_behind (0 : Int32) (if r_1 < (1 : Int32) then (1 : Int32) else r_1) r_11 hf _ _ (mm_wsub hw [0, 1, 2, 4, 5, 3] (by decide) rfl rfl) _ (lv_sub hl [3, 1, 0] rfl)
end
