section
variable {p : Program} {l : Launch} {e : Env} {s : State} {m : MethodId} {args : Array Value} {below : List Frame} {meth : Method} {c : Code} {dC : Nat → ClassId} {dI : Nat → Nat → Nat} {cC cI cJ cQ : ClassId} {A : Nat → Prop} {Z : (Nat → Prop) → State → Heap → Prop} {ad adK adV : Nat → Nat}
abbrev b_Row_size : ByteArray := prog_7_method_2_code
abbrev y_Row_size : MethodName := ⟨"DirectivePrinter$Row", "size", "()I"⟩
def w_Row_size : List Cond := .code y_Row_size b_Row_size 1 (some .int) :: lw_g
theorem d_Row_size_0 : decode b_Row_size 0 = .ok (.aload_n 0, 1) := by decide +kernel
theorem d_Row_size_1 : decode b_Row_size 1 = .ok (.getfield 21, 3) := by decide +kernel
theorem d_Row_size_4 : decode b_Row_size 4 = .ok (.ireturn, 1) := by decide +kernel
abbrev b_Row_at : ByteArray := prog_7_method_3_code
abbrev y_Row_at : MethodName := ⟨"DirectivePrinter$Row", "at", "(I)I"⟩
def w_Row_at : List Cond := .code y_Row_at b_Row_at 2 (some .int) :: lw_g
theorem d_Row_at_0 : decode b_Row_at 0 = .ok (.iload_n 1, 1) := by decide +kernel
theorem d_Row_at_1 : decode b_Row_at 1 = .ok (.ifCond .lt 29, 3) := by decide +kernel
theorem d_Row_at_4 : decode b_Row_at 4 = .ok (.iload_n 1, 1) := by decide +kernel
theorem d_Row_at_5 : decode b_Row_at 5 = .ok (.aload_n 0, 1) := by decide +kernel
theorem d_Row_at_6 : decode b_Row_at 6 = .ok (.getfield 21, 3) := by decide +kernel
theorem d_Row_at_9 : decode b_Row_at 9 = .ok (.if_icmp .ge 21, 3) := by decide +kernel
theorem d_Row_at_12 : decode b_Row_at 12 = .ok (.iload_n 1, 1) := by decide +kernel
theorem d_Row_at_13 : decode b_Row_at 13 = .ok (.aload_n 0, 1) := by decide +kernel
theorem d_Row_at_14 : decode b_Row_at 14 = .ok (.getfield 15, 3) := by decide +kernel
theorem d_Row_at_17 : decode b_Row_at 17 = .ok (.arraylength, 1) := by decide +kernel
theorem d_Row_at_18 : decode b_Row_at 18 = .ok (.if_icmp .ge 12, 3) := by decide +kernel
theorem d_Row_at_21 : decode b_Row_at 21 = .ok (.aload_n 0, 1) := by decide +kernel
theorem d_Row_at_22 : decode b_Row_at 22 = .ok (.getfield 15, 3) := by decide +kernel
theorem d_Row_at_25 : decode b_Row_at 25 = .ok (.iload_n 1, 1) := by decide +kernel
theorem d_Row_at_26 : decode b_Row_at 26 = .ok (.caload, 1) := by decide +kernel
theorem d_Row_at_27 : decode b_Row_at 27 = .ok (.goto 4, 3) := by decide +kernel
theorem d_Row_at_30 : decode b_Row_at 30 = .ok (.iconst (-1), 1) := by decide +kernel
theorem d_Row_at_31 : decode b_Row_at 31 = .ok (.ireturn, 1) := by decide +kernel
abbrev b_Row_add : ByteArray := prog_7_method_4_code
abbrev y_Row_add : MethodName := ⟨"DirectivePrinter$Row", "add", "(C)V"⟩
def w_Row_add : List Cond := .code y_Row_add b_Row_add 2 none :: lw_g
theorem d_Row_add_0 : decode b_Row_add 0 = .ok (.aload_n 0, 1) := by decide +kernel
theorem d_Row_add_1 : decode b_Row_add 1 = .ok (.getfield 21, 3) := by decide +kernel
theorem d_Row_add_4 : decode b_Row_add 4 = .ok (.ifCond .lt 25, 3) := by decide +kernel
theorem d_Row_add_7 : decode b_Row_add 7 = .ok (.aload_n 0, 1) := by decide +kernel
theorem d_Row_add_8 : decode b_Row_add 8 = .ok (.getfield 21, 3) := by decide +kernel
theorem d_Row_add_11 : decode b_Row_add 11 = .ok (.aload_n 0, 1) := by decide +kernel
theorem d_Row_add_12 : decode b_Row_add 12 = .ok (.getfield 15, 3) := by decide +kernel
theorem d_Row_add_15 : decode b_Row_add 15 = .ok (.arraylength, 1) := by decide +kernel
theorem d_Row_add_16 : decode b_Row_add 16 = .ok (.if_icmp .ge 13, 3) := by decide +kernel
theorem d_Row_add_19 : decode b_Row_add 19 = .ok (.aload_n 0, 1) := by decide +kernel
theorem d_Row_add_20 : decode b_Row_add 20 = .ok (.getfield 15, 3) := by decide +kernel
theorem d_Row_add_23 : decode b_Row_add 23 = .ok (.aload_n 0, 1) := by decide +kernel
theorem d_Row_add_24 : decode b_Row_add 24 = .ok (.getfield 21, 3) := by decide +kernel
theorem d_Row_add_27 : decode b_Row_add 27 = .ok (.iload_n 1, 1) := by decide +kernel
theorem d_Row_add_28 : decode b_Row_add 28 = .ok (.castore, 1) := by decide +kernel
theorem d_Row_add_29 : decode b_Row_add 29 = .ok (.aload_n 0, 1) := by decide +kernel
theorem d_Row_add_30 : decode b_Row_add 30 = .ok (.dup, 1) := by decide +kernel
theorem d_Row_add_31 : decode b_Row_add 31 = .ok (.getfield 21, 3) := by decide +kernel
theorem d_Row_add_34 : decode b_Row_add 34 = .ok (.iconst 1, 1) := by decide +kernel
theorem d_Row_add_35 : decode b_Row_add 35 = .ok (.iadd, 1) := by decide +kernel
theorem d_Row_add_36 : decode b_Row_add 36 = .ok (.putfield 21, 3) := by decide +kernel
theorem d_Row_add_39 : decode b_Row_add 39 = .ok (.return_, 1) := by decide +kernel
abbrev b_Row_addRow : ByteArray := prog_7_method_6_code
abbrev y_Row_addRow : MethodName := ⟨"DirectivePrinter$Row", "addRow", "(LDirectivePrinter$Row;)V"⟩
def w_Row_addRow : List Cond := .code y_Row_addRow b_Row_addRow 4 none :: lw_g
theorem d_Row_addRow_0 : decode b_Row_addRow 0 = .ok (.aload_n 1, 1) := by decide +kernel
theorem d_Row_addRow_1 : decode b_Row_addRow 1 = .ok (.getfield 21, 3) := by decide +kernel
theorem d_Row_addRow_4 : decode b_Row_addRow 4 = .ok (.aload_n 1, 1) := by decide +kernel
theorem d_Row_addRow_5 : decode b_Row_addRow 5 = .ok (.getfield 15, 3) := by decide +kernel
theorem d_Row_addRow_8 : decode b_Row_addRow 8 = .ok (.arraylength, 1) := by decide +kernel
theorem d_Row_addRow_9 : decode b_Row_addRow 9 = .ok (.invokestatic 38, 3) := by decide +kernel
theorem d_Row_addRow_12 : decode b_Row_addRow 12 = .ok (.istore_n 2, 1) := by decide +kernel
theorem d_Row_addRow_13 : decode b_Row_addRow 13 = .ok (.iconst 0, 1) := by decide +kernel
theorem d_Row_addRow_14 : decode b_Row_addRow 14 = .ok (.istore_n 3, 1) := by decide +kernel
theorem d_Row_addRow_15 : decode b_Row_addRow 15 = .ok (.iload_n 3, 1) := by decide +kernel
theorem d_Row_addRow_16 : decode b_Row_addRow 16 = .ok (.iload_n 2, 1) := by decide +kernel
theorem d_Row_addRow_17 : decode b_Row_addRow 17 = .ok (.if_icmp .ge 19, 3) := by decide +kernel
theorem d_Row_addRow_20 : decode b_Row_addRow 20 = .ok (.aload_n 0, 1) := by decide +kernel
theorem d_Row_addRow_21 : decode b_Row_addRow 21 = .ok (.aload_n 1, 1) := by decide +kernel
theorem d_Row_addRow_22 : decode b_Row_addRow 22 = .ok (.getfield 15, 3) := by decide +kernel
theorem d_Row_addRow_25 : decode b_Row_addRow 25 = .ok (.iload_n 3, 1) := by decide +kernel
theorem d_Row_addRow_26 : decode b_Row_addRow 26 = .ok (.caload, 1) := by decide +kernel
theorem d_Row_addRow_27 : decode b_Row_addRow 27 = .ok (.invokevirtual 34, 3) := by decide +kernel
theorem d_Row_addRow_30 : decode b_Row_addRow 30 = .ok (.iinc 3 1, 3) := by decide +kernel
theorem d_Row_addRow_33 : decode b_Row_addRow 33 = .ok (.goto (-18), 3) := by decide +kernel
theorem d_Row_addRow_36 : decode b_Row_addRow 36 = .ok (.return_, 1) := by decide +kernel
abbrev b_Row_addMany : ByteArray := prog_7_method_7_code
abbrev y_Row_addMany : MethodName := ⟨"DirectivePrinter$Row", "addMany", "(CI)V"⟩
def w_Row_addMany : List Cond := .code y_Row_addMany b_Row_addMany 5 none :: lw_g
theorem d_Row_addMany_0 : decode b_Row_addMany 0 = .ok (.iload_n 2, 1) := by decide +kernel
theorem d_Row_addMany_1 : decode b_Row_addMany 1 = .ok (.ifCond .le 10, 3) := by decide +kernel
theorem d_Row_addMany_4 : decode b_Row_addMany 4 = .ok (.aload_n 0, 1) := by decide +kernel
theorem d_Row_addMany_5 : decode b_Row_addMany 5 = .ok (.getfield 21, 3) := by decide +kernel
theorem d_Row_addMany_8 : decode b_Row_addMany 8 = .ok (.ifCond .ge 4, 3) := by decide +kernel
theorem d_Row_addMany_11 : decode b_Row_addMany 11 = .ok (.return_, 1) := by decide +kernel
theorem d_Row_addMany_12 : decode b_Row_addMany 12 = .ok (.aload_n 0, 1) := by decide +kernel
theorem d_Row_addMany_13 : decode b_Row_addMany 13 = .ok (.getfield 21, 3) := by decide +kernel
theorem d_Row_addMany_16 : decode b_Row_addMany 16 = .ok (.iload_n 2, 1) := by decide +kernel
theorem d_Row_addMany_17 : decode b_Row_addMany 17 = .ok (.iadd, 1) := by decide +kernel
theorem d_Row_addMany_18 : decode b_Row_addMany 18 = .ok (.aload_n 0, 1) := by decide +kernel
theorem d_Row_addMany_19 : decode b_Row_addMany 19 = .ok (.getfield 15, 3) := by decide +kernel
theorem d_Row_addMany_22 : decode b_Row_addMany 22 = .ok (.arraylength, 1) := by decide +kernel
theorem d_Row_addMany_23 : decode b_Row_addMany 23 = .ok (.invokestatic 38, 3) := by decide +kernel
theorem d_Row_addMany_26 : decode b_Row_addMany 26 = .ok (.istore_n 3, 1) := by decide +kernel
theorem d_Row_addMany_27 : decode b_Row_addMany 27 = .ok (.aload_n 0, 1) := by decide +kernel
theorem d_Row_addMany_28 : decode b_Row_addMany 28 = .ok (.getfield 21, 3) := by decide +kernel
theorem d_Row_addMany_31 : decode b_Row_addMany 31 = .ok (.istore 4, 2) := by decide +kernel
theorem d_Row_addMany_33 : decode b_Row_addMany 33 = .ok (.iload 4, 2) := by decide +kernel
theorem d_Row_addMany_35 : decode b_Row_addMany 35 = .ok (.iload_n 3, 1) := by decide +kernel
theorem d_Row_addMany_36 : decode b_Row_addMany 36 = .ok (.if_icmp .ge 17, 3) := by decide +kernel
theorem d_Row_addMany_39 : decode b_Row_addMany 39 = .ok (.aload_n 0, 1) := by decide +kernel
theorem d_Row_addMany_40 : decode b_Row_addMany 40 = .ok (.getfield 15, 3) := by decide +kernel
theorem d_Row_addMany_43 : decode b_Row_addMany 43 = .ok (.iload 4, 2) := by decide +kernel
theorem d_Row_addMany_45 : decode b_Row_addMany 45 = .ok (.iload_n 1, 1) := by decide +kernel
theorem d_Row_addMany_46 : decode b_Row_addMany 46 = .ok (.castore, 1) := by decide +kernel
theorem d_Row_addMany_47 : decode b_Row_addMany 47 = .ok (.iinc 4 1, 3) := by decide +kernel
theorem d_Row_addMany_50 : decode b_Row_addMany 50 = .ok (.goto (-17), 3) := by decide +kernel
theorem d_Row_addMany_53 : decode b_Row_addMany 53 = .ok (.aload_n 0, 1) := by decide +kernel
theorem d_Row_addMany_54 : decode b_Row_addMany 54 = .ok (.dup, 1) := by decide +kernel
theorem d_Row_addMany_55 : decode b_Row_addMany 55 = .ok (.getfield 21, 3) := by decide +kernel
theorem d_Row_addMany_58 : decode b_Row_addMany 58 = .ok (.iload_n 2, 1) := by decide +kernel
theorem d_Row_addMany_59 : decode b_Row_addMany 59 = .ok (.iadd, 1) := by decide +kernel
theorem d_Row_addMany_60 : decode b_Row_addMany 60 = .ok (.putfield 21, 3) := by decide +kernel
theorem d_Row_addMany_63 : decode b_Row_addMany 63 = .ok (.return_, 1) := by decide +kernel
abbrev b_Row_insert : ByteArray := prog_7_method_8_code
abbrev y_Row_insert : MethodName := ⟨"DirectivePrinter$Row", "insert", "(ICI)V"⟩
def w_Row_insert : List Cond := .code y_Row_insert b_Row_insert 7 none :: lw_g
theorem d_Row_insert_0 : decode b_Row_insert 0 = .ok (.iload_n 3, 1) := by decide +kernel
theorem d_Row_insert_1 : decode b_Row_insert 1 = .ok (.ifCond .le 15, 3) := by decide +kernel
theorem d_Row_insert_4 : decode b_Row_insert 4 = .ok (.iload_n 1, 1) := by decide +kernel
theorem d_Row_insert_5 : decode b_Row_insert 5 = .ok (.ifCond .lt 11, 3) := by decide +kernel
theorem d_Row_insert_8 : decode b_Row_insert 8 = .ok (.iload_n 1, 1) := by decide +kernel
theorem d_Row_insert_9 : decode b_Row_insert 9 = .ok (.aload_n 0, 1) := by decide +kernel
theorem d_Row_insert_10 : decode b_Row_insert 10 = .ok (.getfield 21, 3) := by decide +kernel
theorem d_Row_insert_13 : decode b_Row_insert 13 = .ok (.if_icmp .le 4, 3) := by decide +kernel
theorem d_Row_insert_16 : decode b_Row_insert 16 = .ok (.return_, 1) := by decide +kernel
theorem d_Row_insert_17 : decode b_Row_insert 17 = .ok (.aload_n 0, 1) := by decide +kernel
theorem d_Row_insert_18 : decode b_Row_insert 18 = .ok (.getfield 21, 3) := by decide +kernel
theorem d_Row_insert_21 : decode b_Row_insert 21 = .ok (.iload_n 3, 1) := by decide +kernel
theorem d_Row_insert_22 : decode b_Row_insert 22 = .ok (.iadd, 1) := by decide +kernel
theorem d_Row_insert_23 : decode b_Row_insert 23 = .ok (.aload_n 0, 1) := by decide +kernel
theorem d_Row_insert_24 : decode b_Row_insert 24 = .ok (.getfield 15, 3) := by decide +kernel
theorem d_Row_insert_27 : decode b_Row_insert 27 = .ok (.arraylength, 1) := by decide +kernel
theorem d_Row_insert_28 : decode b_Row_insert 28 = .ok (.invokestatic 38, 3) := by decide +kernel
theorem d_Row_insert_31 : decode b_Row_insert 31 = .ok (.istore 4, 2) := by decide +kernel
theorem d_Row_insert_33 : decode b_Row_insert 33 = .ok (.iload 4, 2) := by decide +kernel
theorem d_Row_insert_35 : decode b_Row_insert 35 = .ok (.iconst 1, 1) := by decide +kernel
theorem d_Row_insert_36 : decode b_Row_insert 36 = .ok (.isub, 1) := by decide +kernel
theorem d_Row_insert_37 : decode b_Row_insert 37 = .ok (.istore 5, 2) := by decide +kernel
theorem d_Row_insert_39 : decode b_Row_insert 39 = .ok (.iload 5, 2) := by decide +kernel
theorem d_Row_insert_41 : decode b_Row_insert 41 = .ok (.iload_n 1, 1) := by decide +kernel
theorem d_Row_insert_42 : decode b_Row_insert 42 = .ok (.iload_n 3, 1) := by decide +kernel
theorem d_Row_insert_43 : decode b_Row_insert 43 = .ok (.iadd, 1) := by decide +kernel
theorem d_Row_insert_44 : decode b_Row_insert 44 = .ok (.if_icmp .lt 25, 3) := by decide +kernel
theorem d_Row_insert_47 : decode b_Row_insert 47 = .ok (.aload_n 0, 1) := by decide +kernel
theorem d_Row_insert_48 : decode b_Row_insert 48 = .ok (.getfield 15, 3) := by decide +kernel
theorem d_Row_insert_51 : decode b_Row_insert 51 = .ok (.iload 5, 2) := by decide +kernel
theorem d_Row_insert_53 : decode b_Row_insert 53 = .ok (.aload_n 0, 1) := by decide +kernel
theorem d_Row_insert_54 : decode b_Row_insert 54 = .ok (.getfield 15, 3) := by decide +kernel
theorem d_Row_insert_57 : decode b_Row_insert 57 = .ok (.iload 5, 2) := by decide +kernel
theorem d_Row_insert_59 : decode b_Row_insert 59 = .ok (.iload_n 3, 1) := by decide +kernel
theorem d_Row_insert_60 : decode b_Row_insert 60 = .ok (.isub, 1) := by decide +kernel
theorem d_Row_insert_61 : decode b_Row_insert 61 = .ok (.caload, 1) := by decide +kernel
theorem d_Row_insert_62 : decode b_Row_insert 62 = .ok (.castore, 1) := by decide +kernel
theorem d_Row_insert_63 : decode b_Row_insert 63 = .ok (.iinc 5 (-1), 3) := by decide +kernel
theorem d_Row_insert_66 : decode b_Row_insert 66 = .ok (.goto (-27), 3) := by decide +kernel
theorem d_Row_insert_69 : decode b_Row_insert 69 = .ok (.iload_n 1, 1) := by decide +kernel
theorem d_Row_insert_70 : decode b_Row_insert 70 = .ok (.iload_n 3, 1) := by decide +kernel
theorem d_Row_insert_71 : decode b_Row_insert 71 = .ok (.iadd, 1) := by decide +kernel
theorem d_Row_insert_72 : decode b_Row_insert 72 = .ok (.aload_n 0, 1) := by decide +kernel
theorem d_Row_insert_73 : decode b_Row_insert 73 = .ok (.getfield 15, 3) := by decide +kernel
theorem d_Row_insert_76 : decode b_Row_insert 76 = .ok (.arraylength, 1) := by decide +kernel
theorem d_Row_insert_77 : decode b_Row_insert 77 = .ok (.invokestatic 38, 3) := by decide +kernel
theorem d_Row_insert_80 : decode b_Row_insert 80 = .ok (.istore 5, 2) := by decide +kernel
theorem d_Row_insert_82 : decode b_Row_insert 82 = .ok (.iload_n 1, 1) := by decide +kernel
theorem d_Row_insert_83 : decode b_Row_insert 83 = .ok (.istore 6, 2) := by decide +kernel
theorem d_Row_insert_85 : decode b_Row_insert 85 = .ok (.iload 6, 2) := by decide +kernel
theorem d_Row_insert_87 : decode b_Row_insert 87 = .ok (.iload 5, 2) := by decide +kernel
theorem d_Row_insert_89 : decode b_Row_insert 89 = .ok (.if_icmp .ge 17, 3) := by decide +kernel
theorem d_Row_insert_92 : decode b_Row_insert 92 = .ok (.aload_n 0, 1) := by decide +kernel
theorem d_Row_insert_93 : decode b_Row_insert 93 = .ok (.getfield 15, 3) := by decide +kernel
theorem d_Row_insert_96 : decode b_Row_insert 96 = .ok (.iload 6, 2) := by decide +kernel
theorem d_Row_insert_98 : decode b_Row_insert 98 = .ok (.iload_n 2, 1) := by decide +kernel
theorem d_Row_insert_99 : decode b_Row_insert 99 = .ok (.castore, 1) := by decide +kernel
theorem d_Row_insert_100 : decode b_Row_insert 100 = .ok (.iinc 6 1, 3) := by decide +kernel
theorem d_Row_insert_103 : decode b_Row_insert 103 = .ok (.goto (-18), 3) := by decide +kernel
theorem d_Row_insert_106 : decode b_Row_insert 106 = .ok (.aload_n 0, 1) := by decide +kernel
theorem d_Row_insert_107 : decode b_Row_insert 107 = .ok (.dup, 1) := by decide +kernel
theorem d_Row_insert_108 : decode b_Row_insert 108 = .ok (.getfield 21, 3) := by decide +kernel
theorem d_Row_insert_111 : decode b_Row_insert 111 = .ok (.iload_n 3, 1) := by decide +kernel
theorem d_Row_insert_112 : decode b_Row_insert 112 = .ok (.iadd, 1) := by decide +kernel
theorem d_Row_insert_113 : decode b_Row_insert 113 = .ok (.putfield 21, 3) := by decide +kernel
theorem d_Row_insert_116 : decode b_Row_insert 116 = .ok (.return_, 1) := by decide +kernel
abbrev b_Row_cutTo : ByteArray := prog_7_method_9_code
abbrev y_Row_cutTo : MethodName := ⟨"DirectivePrinter$Row", "cutTo", "(I)V"⟩
def w_Row_cutTo : List Cond := .code y_Row_cutTo b_Row_cutTo 2 none :: lw_g
theorem d_Row_cutTo_0 : decode b_Row_cutTo 0 = .ok (.iload_n 1, 1) := by decide +kernel
theorem d_Row_cutTo_1 : decode b_Row_cutTo 1 = .ok (.ifCond .lt 16, 3) := by decide +kernel
theorem d_Row_cutTo_4 : decode b_Row_cutTo 4 = .ok (.iload_n 1, 1) := by decide +kernel
theorem d_Row_cutTo_5 : decode b_Row_cutTo 5 = .ok (.aload_n 0, 1) := by decide +kernel
theorem d_Row_cutTo_6 : decode b_Row_cutTo 6 = .ok (.getfield 21, 3) := by decide +kernel
theorem d_Row_cutTo_9 : decode b_Row_cutTo 9 = .ok (.if_icmp .ge 8, 3) := by decide +kernel
theorem d_Row_cutTo_12 : decode b_Row_cutTo 12 = .ok (.aload_n 0, 1) := by decide +kernel
theorem d_Row_cutTo_13 : decode b_Row_cutTo 13 = .ok (.iload_n 1, 1) := by decide +kernel
theorem d_Row_cutTo_14 : decode b_Row_cutTo 14 = .ok (.putfield 21, 3) := by decide +kernel
theorem d_Row_cutTo_17 : decode b_Row_cutTo 17 = .ok (.return_, 1) := by decide +kernel
abbrev b_Row_enlargeLettersFrom : ByteArray := prog_7_method_10_code
abbrev y_Row_enlargeLettersFrom : MethodName := ⟨"DirectivePrinter$Row", "enlargeLettersFrom", "(I)V"⟩
def w_Row_enlargeLettersFrom : List Cond := .code y_Row_enlargeLettersFrom b_Row_enlargeLettersFrom 4 none :: lw_g
theorem d_Row_enlargeLettersFrom_0 : decode b_Row_enlargeLettersFrom 0 = .ok (.aload_n 0, 1) := by decide +kernel
theorem d_Row_enlargeLettersFrom_1 : decode b_Row_enlargeLettersFrom 1 = .ok (.getfield 21, 3) := by decide +kernel
theorem d_Row_enlargeLettersFrom_4 : decode b_Row_enlargeLettersFrom 4 = .ok (.aload_n 0, 1) := by decide +kernel
theorem d_Row_enlargeLettersFrom_5 : decode b_Row_enlargeLettersFrom 5 = .ok (.getfield 15, 3) := by decide +kernel
theorem d_Row_enlargeLettersFrom_8 : decode b_Row_enlargeLettersFrom 8 = .ok (.arraylength, 1) := by decide +kernel
theorem d_Row_enlargeLettersFrom_9 : decode b_Row_enlargeLettersFrom 9 = .ok (.invokestatic 38, 3) := by decide +kernel
theorem d_Row_enlargeLettersFrom_12 : decode b_Row_enlargeLettersFrom 12 = .ok (.istore_n 2, 1) := by decide +kernel
theorem d_Row_enlargeLettersFrom_13 : decode b_Row_enlargeLettersFrom 13 = .ok (.iload_n 1, 1) := by decide +kernel
theorem d_Row_enlargeLettersFrom_14 : decode b_Row_enlargeLettersFrom 14 = .ok (.iconst 0, 1) := by decide +kernel
theorem d_Row_enlargeLettersFrom_15 : decode b_Row_enlargeLettersFrom 15 = .ok (.invokestatic 9, 3) := by decide +kernel
theorem d_Row_enlargeLettersFrom_18 : decode b_Row_enlargeLettersFrom 18 = .ok (.istore_n 3, 1) := by decide +kernel
theorem d_Row_enlargeLettersFrom_19 : decode b_Row_enlargeLettersFrom 19 = .ok (.iload_n 3, 1) := by decide +kernel
theorem d_Row_enlargeLettersFrom_20 : decode b_Row_enlargeLettersFrom 20 = .ok (.iload_n 2, 1) := by decide +kernel
theorem d_Row_enlargeLettersFrom_21 : decode b_Row_enlargeLettersFrom 21 = .ok (.if_icmp .ge 50, 3) := by decide +kernel
theorem d_Row_enlargeLettersFrom_24 : decode b_Row_enlargeLettersFrom 24 = .ok (.aload_n 0, 1) := by decide +kernel
theorem d_Row_enlargeLettersFrom_25 : decode b_Row_enlargeLettersFrom 25 = .ok (.getfield 15, 3) := by decide +kernel
theorem d_Row_enlargeLettersFrom_28 : decode b_Row_enlargeLettersFrom 28 = .ok (.iload_n 3, 1) := by decide +kernel
theorem d_Row_enlargeLettersFrom_29 : decode b_Row_enlargeLettersFrom 29 = .ok (.caload, 1) := by decide +kernel
theorem d_Row_enlargeLettersFrom_30 : decode b_Row_enlargeLettersFrom 30 = .ok (.bipush 97, 2) := by decide +kernel
theorem d_Row_enlargeLettersFrom_32 : decode b_Row_enlargeLettersFrom 32 = .ok (.if_icmp .lt 33, 3) := by decide +kernel
theorem d_Row_enlargeLettersFrom_35 : decode b_Row_enlargeLettersFrom 35 = .ok (.aload_n 0, 1) := by decide +kernel
theorem d_Row_enlargeLettersFrom_36 : decode b_Row_enlargeLettersFrom 36 = .ok (.getfield 15, 3) := by decide +kernel
theorem d_Row_enlargeLettersFrom_39 : decode b_Row_enlargeLettersFrom 39 = .ok (.iload_n 3, 1) := by decide +kernel
theorem d_Row_enlargeLettersFrom_40 : decode b_Row_enlargeLettersFrom 40 = .ok (.caload, 1) := by decide +kernel
theorem d_Row_enlargeLettersFrom_41 : decode b_Row_enlargeLettersFrom 41 = .ok (.bipush 122, 2) := by decide +kernel
theorem d_Row_enlargeLettersFrom_43 : decode b_Row_enlargeLettersFrom 43 = .ok (.if_icmp .gt 22, 3) := by decide +kernel
theorem d_Row_enlargeLettersFrom_46 : decode b_Row_enlargeLettersFrom 46 = .ok (.aload_n 0, 1) := by decide +kernel
theorem d_Row_enlargeLettersFrom_47 : decode b_Row_enlargeLettersFrom 47 = .ok (.getfield 15, 3) := by decide +kernel
theorem d_Row_enlargeLettersFrom_50 : decode b_Row_enlargeLettersFrom 50 = .ok (.iload_n 3, 1) := by decide +kernel
theorem d_Row_enlargeLettersFrom_51 : decode b_Row_enlargeLettersFrom 51 = .ok (.aload_n 0, 1) := by decide +kernel
theorem d_Row_enlargeLettersFrom_52 : decode b_Row_enlargeLettersFrom 52 = .ok (.getfield 15, 3) := by decide +kernel
theorem d_Row_enlargeLettersFrom_55 : decode b_Row_enlargeLettersFrom 55 = .ok (.iload_n 3, 1) := by decide +kernel
theorem d_Row_enlargeLettersFrom_56 : decode b_Row_enlargeLettersFrom 56 = .ok (.caload, 1) := by decide +kernel
theorem d_Row_enlargeLettersFrom_57 : decode b_Row_enlargeLettersFrom 57 = .ok (.bipush 97, 2) := by decide +kernel
theorem d_Row_enlargeLettersFrom_59 : decode b_Row_enlargeLettersFrom 59 = .ok (.isub, 1) := by decide +kernel
theorem d_Row_enlargeLettersFrom_60 : decode b_Row_enlargeLettersFrom 60 = .ok (.bipush 65, 2) := by decide +kernel
theorem d_Row_enlargeLettersFrom_62 : decode b_Row_enlargeLettersFrom 62 = .ok (.iadd, 1) := by decide +kernel
theorem d_Row_enlargeLettersFrom_63 : decode b_Row_enlargeLettersFrom 63 = .ok (.i2c, 1) := by decide +kernel
theorem d_Row_enlargeLettersFrom_64 : decode b_Row_enlargeLettersFrom 64 = .ok (.castore, 1) := by decide +kernel
theorem d_Row_enlargeLettersFrom_65 : decode b_Row_enlargeLettersFrom 65 = .ok (.iinc 3 1, 3) := by decide +kernel
theorem d_Row_enlargeLettersFrom_68 : decode b_Row_enlargeLettersFrom 68 = .ok (.goto (-49), 3) := by decide +kernel
theorem d_Row_enlargeLettersFrom_71 : decode b_Row_enlargeLettersFrom 71 = .ok (.return_, 1) := by decide +kernel
set_option maxRecDepth 100000 in
theorem q_92 : (.fieldLink "DirectivePrinter$Row" 21 "DirectivePrinter$Row" "length" "I" : Cond) ∈ lw_g := List.mem_filter.mpr ⟨List.mem_of_getElem? (i := 92) (by decide +kernel), by decide +kernel⟩
set_option maxRecDepth 100000 in
theorem q_91 : (.fieldLink "DirectivePrinter$Row" 15 "DirectivePrinter$Row" "kept" "[C" : Cond) ∈ lw_g := List.mem_filter.mpr ⟨List.mem_of_getElem? (i := 91) (by decide +kernel), by decide +kernel⟩
set_option maxRecDepth 100000 in
theorem q_514 : (.methodLink "DirectivePrinter$Row" 38 ⟨"java/lang/Math", "min", "(II)I"⟩ : Cond) ∈ lw_g := List.mem_filter.mpr ⟨List.mem_of_getElem? (i := 514) (by decide +kernel), by decide +kernel⟩
set_option maxRecDepth 100000 in
theorem q_300 : (.static ⟨"java/lang/Math", "min", "(II)I"⟩ : Cond) ∈ lw_g := List.mem_filter.mpr ⟨List.mem_of_getElem? (i := 300) (by decide +kernel), by decide +kernel⟩
set_option maxRecDepth 100000 in
theorem q_56 : (.initialized "java/lang/Math" : Cond) ∈ lw_g := List.mem_filter.mpr ⟨List.mem_of_getElem? (i := 56) (by decide +kernel), by decide +kernel⟩
set_option maxRecDepth 100000 in
theorem q_301 : (.code ⟨"java/lang/Math", "min", "(II)I"⟩ prog_15_method_69_code 2 (Option.some FieldType.int) : Cond) ∈ lw_g := List.mem_filter.mpr ⟨List.mem_of_getElem? (i := 301) (rfl), by decide +kernel⟩
set_option maxRecDepth 100000 in
theorem q_494 : (.methodLink "DirectivePrinter$Row" 34 ⟨"DirectivePrinter$Row", "add", "(C)V"⟩ : Cond) ∈ lw_g := List.mem_filter.mpr ⟨List.mem_of_getElem? (i := 494) (by decide +kernel), by decide +kernel⟩
set_option maxRecDepth 100000 in
theorem q_459 : (.instanceMethod ⟨"DirectivePrinter$Row", "add", "(C)V"⟩ : Cond) ∈ lw_g := List.mem_filter.mpr ⟨List.mem_of_getElem? (i := 459) (by decide +kernel), by decide +kernel⟩
set_option maxRecDepth 100000 in
theorem q_460 : (.selects "DirectivePrinter$Row" ⟨"DirectivePrinter$Row", "add", "(C)V"⟩ ⟨"DirectivePrinter$Row", "add", "(C)V"⟩ : Cond) ∈ lw_g := List.mem_filter.mpr ⟨List.mem_of_getElem? (i := 460) (by decide +kernel), by decide +kernel⟩
set_option maxRecDepth 100000 in
theorem q_55 : (.initialized "DirectivePrinter$Row" : Cond) ∈ lw_g := List.mem_filter.mpr ⟨List.mem_of_getElem? (i := 55) (by decide +kernel), by decide +kernel⟩
set_option maxRecDepth 100000 in
theorem q_461 : (.code ⟨"DirectivePrinter$Row", "add", "(C)V"⟩ prog_7_method_4_code 2 (Option.none : Option FieldType) : Cond) ∈ lw_g := List.mem_filter.mpr ⟨List.mem_of_getElem? (i := 461) (rfl), by decide +kernel⟩
set_option maxRecDepth 100000 in
theorem q_88 : (.methodLink "DirectivePrinter$Row" 9 ⟨"java/lang/Math", "max", "(II)I"⟩ : Cond) ∈ lw_g := List.mem_filter.mpr ⟨List.mem_of_getElem? (i := 88) (by decide +kernel), by decide +kernel⟩
set_option maxRecDepth 100000 in
theorem q_89 : (.static ⟨"java/lang/Math", "max", "(II)I"⟩ : Cond) ∈ lw_g := List.mem_filter.mpr ⟨List.mem_of_getElem? (i := 89) (by decide +kernel), by decide +kernel⟩
set_option maxRecDepth 100000 in
theorem q_90 : (.code ⟨"java/lang/Math", "max", "(II)I"⟩ prog_15_method_65_code 2 (Option.some FieldType.int) : Cond) ∈ lw_g := List.mem_filter.mpr ⟨List.mem_of_getElem? (i := 90) (rfl), by decide +kernel⟩
/-! DirectivePrinter$Row.size()I -/
def f_Row_size (r_length : Int32) : Option (Int32) := some (r_length)
abbrev r_Row_size : Room := { frames := 0, cells := 0, slots := 0, locals := 0 }
set_option maxHeartbeats 4000000 in
set_option maxRecDepth 100000 in
theorem c_Row_size (l : Launch) {Z : (Nat → Prop) → State → Heap → Prop} {ad adK adV : Nat → Nat} (Zo : mm_Zx Z ad adK adV) (dC : Nat → ClassId) (dI : Nat → Nat → Nat) (cC cI cJ cQ : ClassId) (r_kept_n : Nat) (r_kept : Nat → Int32) (r_length : Int32) (h_r h_r_kept : Nat) (sz : Nat) (out : Int32) (hf : f_Row_size r_length = some out) : Met l y_Row_size w_Row_size r_Row_size (mm_pre (dC, dI) vwC (tyl cC cI cJ cQ) Z [(h_r, .inr (0, [.ref h_r_kept, .int r_length])), (h_r_kept, .inl (cC, r_kept_n, .inl r_kept))] sz [.ref h_r]) (mm_qi (dC, dI) vwC (tyl cC cI cJ cQ) (va_A [(h_r, .inr (0, [.ref h_r_kept, .int r_length])), (h_r_kept, .inl (cC, r_kept_n, .inl r_kept))] sz) [(h_r, .inr (0, [.ref h_r_kept, .int r_length])), (h_r_kept, .inl (cC, r_kept_n, .inl r_kept))] out) 0 0 (va_A [(h_r, .inr (0, [.ref h_r_kept, .int r_length])), (h_r_kept, .inl (cC, r_kept_n, .inl r_kept))] sz) := by
  refine mm_of (own := "DirectivePrinter$Row") (cc := b_Row_size) (maxL := 1) (ret := (some .int)) (by decide) rfl rfl ?_
  intro p e s m below meth c hsz C0 hw hname
  generalize (va_A [(h_r, .inr (0, [.ref h_r_kept, .int r_length])), (h_r_kept, .inl (cC, r_kept_n, .inl r_kept))] sz) = A at C0 hw ⊢
  have hl := lv_entry ([.ref h_r]) (n := 1) (Nat.le_of_ble_eq_true rfl)
  rw [lg_entry_eq]
  generalize (lg_sl ([.ref h_r]) ++ List.replicate (1 - (lg_sl ([.ref h_r])).length) Slot.unset).toArray = ls at hl ⊢
  have hl : lv_has ls 1 [(0, .ref h_r)] := hl
  obtain ⟨hx, hb, hr, hml, hown, hts, hlocks, hK, hZ, hA⟩ := id C0
  generalize s.heap = H at hw ⊢
  unfold f_Row_size at hf
  refine lv_aload_n hx hb d_Row_size_0 rfl (lv_at hl 0 rfl) ?_
  refine va_get (D := (dC, dI)) (ci := 0) (v := .int r_length) (C := "DirectivePrinter$Row") (T := T_Row) (N := 2) hx hb hts (mm_up i_Row) hown hK hw.1 0 rfl rfl 1 (by decide) (hts _ (List.mem_cons_of_mem _ q_92)) (fun _ h9 => h9) rfl d_Row_size_1 ?_
  obtain rfl := Option.some.inj hf
  exact mm_iret hx hb hr hlocks hK (mm_wsub hw [0, 1] (by decide) rfl rfl) rfl d_Row_size_4
/-! DirectivePrinter$Row.at(I)I -/
def f_Row_at (r_kept_n : Nat) (r_kept : Nat → Int32) (r_length : Int32) (i : Int32) : Option (Int32) := (if i < 0 then some ((-1 : Int32)) else (if r_length ≤ i then some ((-1 : Int32)) else (if (nI r_kept_n) ≤ i then some ((-1 : Int32)) else (if i < 0 ∨ r_kept_n ≤ i.toNatClampNeg then none else some (r_kept i.toNatClampNeg)))))
abbrev r_Row_at : Room := { frames := 0, cells := 0, slots := 0, locals := 0 }
set_option maxHeartbeats 4000000 in
set_option maxRecDepth 100000 in
theorem c_Row_at (l : Launch) {Z : (Nat → Prop) → State → Heap → Prop} {ad adK adV : Nat → Nat} (Zo : mm_Zx Z ad adK adV) (dC : Nat → ClassId) (dI : Nat → Nat → Nat) (cC cI cJ cQ : ClassId) (r_kept_n : Nat) (r_kept : Nat → Int32) (r_length : Int32) (i : Int32) (h_r h_r_kept : Nat) (sz : Nat) (out : Int32) (hf : f_Row_at r_kept_n r_kept r_length i = some out) : Met l y_Row_at w_Row_at r_Row_at (mm_pre (dC, dI) vwC (tyl cC cI cJ cQ) Z [(h_r, .inr (0, [.ref h_r_kept, .int r_length])), (h_r_kept, .inl (cC, r_kept_n, .inl r_kept))] sz [.ref h_r, .int i]) (mm_qi (dC, dI) vwC (tyl cC cI cJ cQ) (va_A [(h_r, .inr (0, [.ref h_r_kept, .int r_length])), (h_r_kept, .inl (cC, r_kept_n, .inl r_kept))] sz) [(h_r, .inr (0, [.ref h_r_kept, .int r_length])), (h_r_kept, .inl (cC, r_kept_n, .inl r_kept))] out) 0 0 (va_A [(h_r, .inr (0, [.ref h_r_kept, .int r_length])), (h_r_kept, .inl (cC, r_kept_n, .inl r_kept))] sz) := by
  refine mm_of (own := "DirectivePrinter$Row") (cc := b_Row_at) (maxL := 2) (ret := (some .int)) (by decide) rfl rfl ?_
  intro p e s m below meth c hsz C0 hw hname
  generalize (va_A [(h_r, .inr (0, [.ref h_r_kept, .int r_length])), (h_r_kept, .inl (cC, r_kept_n, .inl r_kept))] sz) = A at C0 hw ⊢
  have hl := lv_entry ([.ref h_r, .int i]) (n := 2) (Nat.le_of_ble_eq_true rfl)
  rw [lg_entry_eq]
  generalize (lg_sl ([.ref h_r, .int i]) ++ List.replicate (2 - (lg_sl ([.ref h_r, .int i])).length) Slot.unset).toArray = ls at hl ⊢
  have hl : lv_has ls 2 [(0, .ref h_r), (1, .int i)] := hl
  obtain ⟨hx, hb, hr, hml, hown, hts, hlocks, hK, hZ, hA⟩ := id C0
  generalize s.heap = H at hw ⊢
  unfold f_Row_at at hf
  refine lv_iload_n hx hb d_Row_at_0 rfl (lv_at hl 1 rfl) ?_
  refine lv_if_lt (tgt := 30) hx hb d_Row_at_1 (by decide) (fun hc => ?_) (fun hc => ?_)
  · replace hf := mm_ip hc hf
    refine lv_iconst (v := (-1 : Int32)) hx hb d_Row_at_30 (by decide) ?_
    obtain rfl := Option.some.inj hf
    exact mm_iret hx hb hr hlocks hK (mm_wsub hw [0, 1] (by decide) rfl rfl) rfl d_Row_at_31
  · replace hf := mm_in hc hf
    refine lv_iload_n hx hb d_Row_at_4 rfl (lv_at hl 1 rfl) ?_
    refine lv_aload_n hx hb d_Row_at_5 rfl (lv_at hl 0 rfl) ?_
    refine va_get (D := (dC, dI)) (ci := 0) (v := .int r_length) (C := "DirectivePrinter$Row") (T := T_Row) (N := 2) hx hb hts (mm_up i_Row) hown hK hw.1 0 rfl rfl 1 (by decide) (hts _ (List.mem_cons_of_mem _ q_92)) (fun _ h9 => h9) rfl d_Row_at_6 ?_
    refine lv_icmp_ge (tgt := 30) hx hb d_Row_at_9 (by decide) (fun hc => ?_) (fun hc => ?_)
    · replace hf := mm_ip hc hf
      refine lv_iconst (v := (-1 : Int32)) hx hb d_Row_at_30 (by decide) ?_
      obtain rfl := Option.some.inj hf
      exact mm_iret hx hb hr hlocks hK (mm_wsub hw [0, 1] (by decide) rfl rfl) rfl d_Row_at_31
    · replace hf := mm_in hc hf
      refine lv_iload_n hx hb d_Row_at_12 rfl (lv_at hl 1 rfl) ?_
      refine lv_aload_n hx hb d_Row_at_13 rfl (lv_at hl 0 rfl) ?_
      refine va_get (D := (dC, dI)) (ci := 0) (v := .ref h_r_kept) (C := "DirectivePrinter$Row") (T := T_Row) (N := 2) hx hb hts (mm_up i_Row) hown hK hw.1 0 rfl rfl 0 (by decide) (hts _ (List.mem_cons_of_mem _ q_91)) (fun _ h9 => h9) rfl d_Row_at_14 ?_
      refine va_alen hx hb hK hw.1 1 0 rfl rfl (v := nI r_kept_n) rfl d_Row_at_17 ?_
      refine lv_icmp_ge (tgt := 30) hx hb d_Row_at_18 (by decide) (fun hc => ?_) (fun hc => ?_)
      · replace hf := mm_ip hc hf
        refine lv_iconst (v := (-1 : Int32)) hx hb d_Row_at_30 (by decide) ?_
        obtain rfl := Option.some.inj hf
        exact mm_iret hx hb hr hlocks hK (mm_wsub hw [0, 1] (by decide) rfl rfl) rfl d_Row_at_31
      · replace hf := mm_in hc hf
        refine lv_aload_n hx hb d_Row_at_21 rfl (lv_at hl 0 rfl) ?_
        refine va_get (D := (dC, dI)) (ci := 0) (v := .ref h_r_kept) (C := "DirectivePrinter$Row") (T := T_Row) (N := 2) hx hb hts (mm_up i_Row) hown hK hw.1 0 rfl rfl 0 (by decide) (hts _ (List.mem_cons_of_mem _ q_91)) (fun _ h9 => h9) rfl d_Row_at_22 ?_
        refine lv_iload_n hx hb d_Row_at_25 rfl (lv_at hl 1 rfl) ?_
        obtain ⟨hz, hf⟩ := mm_grd hf
        refine va_cald hx hb hK hw.1 1 0 rfl rfl hz d_Row_at_26 ?_
        refine lv_goto (tgt := 31) hx hb d_Row_at_27 (by decide) ?_
        obtain rfl := Option.some.inj hf
        exact mm_iret hx hb hr hlocks hK (mm_wsub hw [0, 1] (by decide) rfl rfl) rfl d_Row_at_31
/-! DirectivePrinter$Row.add(C)V -/
def f_Row_add_29 (r_kept : Nat → Int32) (r_length : Int32) : Option ((Nat → Int32) × Int32) := some (r_kept, r_length + (1 : Int32))
def f_Row_add (r_kept_n : Nat) (r_kept : Nat → Int32) (r_length : Int32) (ch : Int32) : Option ((Nat → Int32) × Int32) := (if r_length < 0 then f_Row_add_29 r_kept r_length else (if (nI r_kept_n) ≤ r_length then f_Row_add_29 r_kept r_length else (if r_length < 0 ∨ r_kept_n ≤ r_length.toNatClampNeg then none else f_Row_add_29 (upd r_kept r_length.toNatClampNeg (vp_nar .char ch)) r_length)))
abbrev r_Row_add : Room := { frames := 0, cells := 0, slots := 0, locals := 0 }
set_option maxHeartbeats 4000000 in
set_option maxRecDepth 100000 in
theorem b_Row_add_29 {h_r h_r_kept : Nat} (Zo : mm_Zx Z ad adK adV) (C0 : mm_cx (dC, dI) vwC (tyl cC cI cJ cQ) Z p s m args meth c b_Row_add 2 none "DirectivePrinter$Row" w_Row_add A) (r_kept_n : Nat) (ch : Int32) (out : (Nat → Int32) × Int32) : ∀ (r_kept : Nat → Int32) (r_length : Int32), f_Row_add_29  r_kept r_length = some out → ∀ (H : Heap) (locs : List Loc), mm_w (dC, dI) vwC A s [(h_r, .inr (0, [.ref h_r_kept, .int r_length])), (h_r_kept, .inl (cC, r_kept_n, .inl r_kept))] H locs → ∀ (ls : Array Slot), lv_has ls 2 [(0, .ref h_r)] → W p l e r_Row_add s m args below meth c H locs 0 0 (MQ below (mm_qv (dC, dI) vwC (tyl cC cI cJ cQ) A [(h_r, .inr (0, [.ref h_r_kept, .int out.2])), (h_r_kept, .inl (cC, r_kept_n, .inl out.1))]) args s 0 0 A) (F0 m 29 ls []) := by
  obtain ⟨hx, hb, hr, hml, hown, hts, hlocks, hK, hZ, hA⟩ := id C0
  intro r_kept r_length hf H locs hw ls hl
  unfold f_Row_add_29 at hf
  refine lv_aload_n hx hb d_Row_add_29 rfl (lv_at hl 0 rfl) ?_
  refine lv_dup hx hb d_Row_add_30 rfl ?_
  refine va_get (D := (dC, dI)) (ci := 0) (v := .int r_length) (C := "DirectivePrinter$Row") (T := T_Row) (N := 2) hx hb hts (mm_up i_Row) hown hK hw.1 0 rfl rfl 1 (by decide) (hts _ (List.mem_cons_of_mem _ q_92)) (fun _ h9 => h9) rfl d_Row_add_31 ?_
  refine lv_iconst (v := (1 : Int32)) hx hb d_Row_add_34 (by decide) ?_
  refine lv_iadd hx hb d_Row_add_35 ?_
  refine va_put (D := (dC, dI)) (ci := 0) (v := .int (r_length + (1 : Int32))) (ty := .int) (C := "DirectivePrinter$Row") (T := T_Row) (N := 2) hx hb hts (mm_up i_Row) t_Row t_Row_ok n_Row hown hK hw.1 hw.2.1 hw.2.2 0 rfl rfl 1 (by decide) (hts _ (List.mem_cons_of_mem _ q_92)) (fun _ h9 => h9) rfl (by decide +kernel) rfl rfl (Nat.le_of_ble_eq_true rfl) d_Row_add_36 (fun H locs hP hD hS => ?_)
  have hw : mm_w (dC, dI) vwC A s [(h_r, .inr (0, [.ref h_r_kept, .int (r_length + (1 : Int32))])), (h_r_kept, .inl (cC, r_kept_n, .inl r_kept))] H locs := ⟨hP, hD, hS⟩
  obtain rfl := Option.some.inj hf
  exact mm_vret hx hb hr hlocks hK (mm_wsub hw [0, 1] (by decide) rfl rfl) d_Row_add_39
set_option maxHeartbeats 4000000 in
set_option maxRecDepth 100000 in
theorem c_Row_add (l : Launch) {Z : (Nat → Prop) → State → Heap → Prop} {ad adK adV : Nat → Nat} (Zo : mm_Zx Z ad adK adV) (dC : Nat → ClassId) (dI : Nat → Nat → Nat) (cC cI cJ cQ : ClassId) (r_kept_n : Nat) (r_kept : Nat → Int32) (r_length : Int32) (ch : Int32) (h_r h_r_kept : Nat) (sz : Nat) (out : (Nat → Int32) × Int32) (hf : f_Row_add r_kept_n r_kept r_length ch = some out) : Met l y_Row_add w_Row_add r_Row_add (mm_pre (dC, dI) vwC (tyl cC cI cJ cQ) Z [(h_r, .inr (0, [.ref h_r_kept, .int r_length])), (h_r_kept, .inl (cC, r_kept_n, .inl r_kept))] sz [.ref h_r, .int ch]) (mm_qv (dC, dI) vwC (tyl cC cI cJ cQ) (va_A [(h_r, .inr (0, [.ref h_r_kept, .int r_length])), (h_r_kept, .inl (cC, r_kept_n, .inl r_kept))] sz) [(h_r, .inr (0, [.ref h_r_kept, .int out.2])), (h_r_kept, .inl (cC, r_kept_n, .inl out.1))]) 0 0 (va_A [(h_r, .inr (0, [.ref h_r_kept, .int r_length])), (h_r_kept, .inl (cC, r_kept_n, .inl r_kept))] sz) := by
  refine mm_of (own := "DirectivePrinter$Row") (cc := b_Row_add) (maxL := 2) (ret := none) (by decide) rfl rfl ?_
  intro p e s m below meth c hsz C0 hw hname
  generalize (va_A [(h_r, .inr (0, [.ref h_r_kept, .int r_length])), (h_r_kept, .inl (cC, r_kept_n, .inl r_kept))] sz) = A at C0 hw ⊢
  have hl := lv_entry ([.ref h_r, .int ch]) (n := 2) (Nat.le_of_ble_eq_true rfl)
  rw [lg_entry_eq]
  generalize (lg_sl ([.ref h_r, .int ch]) ++ List.replicate (2 - (lg_sl ([.ref h_r, .int ch])).length) Slot.unset).toArray = ls at hl ⊢
  have hl : lv_has ls 2 [(0, .ref h_r), (1, .int ch)] := hl
  obtain ⟨hx, hb, hr, hml, hown, hts, hlocks, hK, hZ, hA⟩ := id C0
  generalize s.heap = H at hw ⊢
  unfold f_Row_add at hf
  refine lv_aload_n hx hb d_Row_add_0 rfl (lv_at hl 0 rfl) ?_
  refine va_get (D := (dC, dI)) (ci := 0) (v := .int r_length) (C := "DirectivePrinter$Row") (T := T_Row) (N := 2) hx hb hts (mm_up i_Row) hown hK hw.1 0 rfl rfl 1 (by decide) (hts _ (List.mem_cons_of_mem _ q_92)) (fun _ h9 => h9) rfl d_Row_add_1 ?_
  refine lv_if_lt (tgt := 29) hx hb d_Row_add_4 (by decide) (fun hc => ?_) (fun hc => ?_)
  · replace hf := mm_ip hc hf
    exact b_Row_add_29 Zo C0 r_kept_n ch  out r_kept r_length hf _ _ hw _ (lv_sub hl [0] rfl)
  · replace hf := mm_in hc hf
    refine lv_aload_n hx hb d_Row_add_7 rfl (lv_at hl 0 rfl) ?_
    refine va_get (D := (dC, dI)) (ci := 0) (v := .int r_length) (C := "DirectivePrinter$Row") (T := T_Row) (N := 2) hx hb hts (mm_up i_Row) hown hK hw.1 0 rfl rfl 1 (by decide) (hts _ (List.mem_cons_of_mem _ q_92)) (fun _ h9 => h9) rfl d_Row_add_8 ?_
    refine lv_aload_n hx hb d_Row_add_11 rfl (lv_at hl 0 rfl) ?_
    refine va_get (D := (dC, dI)) (ci := 0) (v := .ref h_r_kept) (C := "DirectivePrinter$Row") (T := T_Row) (N := 2) hx hb hts (mm_up i_Row) hown hK hw.1 0 rfl rfl 0 (by decide) (hts _ (List.mem_cons_of_mem _ q_91)) (fun _ h9 => h9) rfl d_Row_add_12 ?_
    refine va_alen hx hb hK hw.1 1 0 rfl rfl (v := nI r_kept_n) rfl d_Row_add_15 ?_
    refine lv_icmp_ge (tgt := 29) hx hb d_Row_add_16 (by decide) (fun hc => ?_) (fun hc => ?_)
    · replace hf := mm_ip hc hf
      exact b_Row_add_29 Zo C0 r_kept_n ch  out r_kept r_length hf _ _ hw _ (lv_sub hl [0] rfl)
    · replace hf := mm_in hc hf
      refine lv_aload_n hx hb d_Row_add_19 rfl (lv_at hl 0 rfl) ?_
      refine va_get (D := (dC, dI)) (ci := 0) (v := .ref h_r_kept) (C := "DirectivePrinter$Row") (T := T_Row) (N := 2) hx hb hts (mm_up i_Row) hown hK hw.1 0 rfl rfl 0 (by decide) (hts _ (List.mem_cons_of_mem _ q_91)) (fun _ h9 => h9) rfl d_Row_add_20 ?_
      refine lv_aload_n hx hb d_Row_add_23 rfl (lv_at hl 0 rfl) ?_
      refine va_get (D := (dC, dI)) (ci := 0) (v := .int r_length) (C := "DirectivePrinter$Row") (T := T_Row) (N := 2) hx hb hts (mm_up i_Row) hown hK hw.1 0 rfl rfl 1 (by decide) (hts _ (List.mem_cons_of_mem _ q_92)) (fun _ h9 => h9) rfl d_Row_add_24 ?_
      refine lv_iload_n hx hb d_Row_add_27 rfl (lv_at hl 1 rfl) ?_
      obtain ⟨hz, hf⟩ := mm_grd hf
      refine va_cast hx hb hK hw.1 hw.2.1 hw.2.2 1 0 rfl rfl hz d_Row_add_28 (fun H locs hP hD hS => ?_)
      have hw : mm_w (dC, dI) vwC A s [(h_r, .inr (0, [.ref h_r_kept, .int r_length])), (h_r_kept, .inl (cC, r_kept_n, .inl (upd r_kept r_length.toNatClampNeg (vp_nar .char ch))))] H locs := ⟨hP, hD, hS⟩
      exact b_Row_add_29 Zo C0 r_kept_n ch  out (upd r_kept r_length.toNatClampNeg (vp_nar .char ch)) r_length hf _ _ hw _ (lv_sub hl [0] rfl)
/-! DirectivePrinter$Row.addRow(LDirectivePrinter$Row;)V -/
def f_Row_addRow_15 (r_kept_n : Nat) (o_kept_n : Nat) (o_kept : Nat → Int32) : Nat → (Nat → Int32) → Int32 → Int32 → Int32 → Option ((Nat → Int32) × Int32)
  | 0, _, _, _, _ => none
  | fu + 1, r_kept, r_length, x2, x3 => (if x2 ≤ x3 then some (r_kept, r_length) else (if x3 < 0 ∨ o_kept_n ≤ x3.toNatClampNeg then none else mm_b2 (f_Row_add r_kept_n r_kept r_length (o_kept x3.toNatClampNeg)) (fun o_1 o_2 => f_Row_addRow_15 r_kept_n o_kept_n o_kept fu o_1 o_2 x2 (x3 + (1 : Int32)))))
def f_Row_addRow (N : Nat) (r_kept_n : Nat) (r_kept : Nat → Int32) (r_length : Int32) (o_kept_n : Nat) (o_kept : Nat → Int32) (o_length : Int32) : Option ((Nat → Int32) × Int32) := f_Row_addRow_15 r_kept_n o_kept_n o_kept N r_kept r_length (if (nI o_kept_n) < o_length then (nI o_kept_n) else o_length) (0 : Int32)
abbrev r_Row_addRow : Room := { frames := 1, cells := 0, slots := 0, locals := 21 }
set_option maxHeartbeats 4000000 in
set_option maxRecDepth 100000 in
theorem b_Row_addRow_15 {h_r h_r_kept h_o h_o_kept : Nat} (Zo : mm_Zx Z ad adK adV) (C0 : mm_cx (dC, dI) vwC (tyl cC cI cJ cQ) Z p s m args meth c b_Row_addRow 4 none "DirectivePrinter$Row" w_Row_addRow A) (N : Nat) (r_kept_n : Nat) (o_kept_n : Nat) (o_kept : Nat → Int32) (o_length : Int32) (out : (Nat → Int32) × Int32) : ∀ (fuel : Nat) (r_kept : Nat → Int32) (r_length : Int32) (x2 : Int32) (x3 : Int32), f_Row_addRow_15 r_kept_n o_kept_n o_kept fuel r_kept r_length x2 x3 = some out → ∀ (H : Heap) (locs : List Loc), mm_w (dC, dI) vwC A s [(h_r, .inr (0, [.ref h_r_kept, .int r_length])), (h_r_kept, .inl (cC, r_kept_n, .inl r_kept)), (h_o, .inr (0, [.ref h_o_kept, .int o_length])), (h_o_kept, .inl (cC, o_kept_n, .inl o_kept))] H locs → ∀ (ls : Array Slot), lv_has ls 4 [(0, .ref h_r), (1, .ref h_o), (2, .int x2), (3, .int x3)] → W p l e r_Row_addRow s m args below meth c H locs 0 0 (MQ below (mm_qv (dC, dI) vwC (tyl cC cI cJ cQ) A [(h_r, .inr (0, [.ref h_r_kept, .int out.2])), (h_r_kept, .inl (cC, r_kept_n, .inl out.1)), (h_o, .inr (0, [.ref h_o_kept, .int o_length])), (h_o_kept, .inl (cC, o_kept_n, .inl o_kept))]) args s 0 0 A) (F0 m 15 ls []) := by
  obtain ⟨hx, hb, hr, hml, hown, hts, hlocks, hK, hZ, hA⟩ := id C0
  intro fuel
  induction fuel with
  | zero =>
    intro r_kept r_length x2 x3 hf
    cases (show (none : Option ((Nat → Int32) × Int32)) = some out from hf)
  | succ fu ih =>
    intro r_kept r_length x2 x3 hf H locs hw ls hl
    unfold f_Row_addRow_15 at hf
    refine lv_iload_n hx hb d_Row_addRow_15 rfl (lv_at hl 3 rfl) ?_
    refine lv_iload_n hx hb d_Row_addRow_16 rfl (lv_at hl 2 rfl) ?_
    refine lv_icmp_ge (tgt := 36) hx hb d_Row_addRow_17 (by decide) (fun hc => ?_) (fun hc => ?_)
    · replace hf := mm_ip hc hf
      obtain rfl := Option.some.inj hf
      exact mm_vret hx hb hr hlocks hK (mm_wsub hw [0, 1, 2, 3] (by decide) rfl rfl) d_Row_addRow_36
    · replace hf := mm_in hc hf
      refine lv_aload_n hx hb d_Row_addRow_20 rfl (lv_at hl 0 rfl) ?_
      refine lv_aload_n hx hb d_Row_addRow_21 rfl (lv_at hl 1 rfl) ?_
      refine va_get (D := (dC, dI)) (ci := 0) (v := .ref h_o_kept) (C := "DirectivePrinter$Row") (T := T_Row) (N := 2) hx hb hts (mm_up i_Row) hown hK hw.1 2 rfl rfl 0 (by decide) (hts _ (List.mem_cons_of_mem _ q_91)) (fun _ h9 => h9) rfl d_Row_addRow_22 ?_
      refine lv_iload_n hx hb d_Row_addRow_25 rfl (lv_at hl 3 rfl) ?_
      obtain ⟨hz, hf⟩ := mm_grd hf
      refine va_cald hx hb hK hw.1 3 0 rfl rfl hz d_Row_addRow_26 ?_
      obtain ⟨o_1, o_2, hu, hf⟩ := mm_b2_ok hf
      refine mm_cv (wr := [(h_o, .inr (0, [.ref h_o_kept, .int o_length])), (h_o_kept, .inl (cC, o_kept_n, .inl o_kept))]) (va_runV (As := [.int (o_kept x3.toNatClampNeg)]) (rest := []) ⟨hx, hb, hml, hown, hts⟩ (c_Row_add l Zo dC dI cC cI cJ cQ r_kept_n r_kept r_length (o_kept x3.toNatClampNeg) h_r h_r_kept H.size (o_1, o_2) hu) (cwV 1 hts (mm_gV q_494 q_459 q_460 q_55 q_461) rfl rfl rfl (by decide +kernel) ⟨Nat.le_of_ble_eq_true rfl, Nat.le_of_ble_eq_true rfl⟩) (mm_pv Zo.1 hK hw hZ hA [0, 1] (by decide) rfl rfl (ci := 0) (q0 := 0) rfl rfl) rfl rfl hl.1 rfl (lv_room (Nat.le_of_ble_eq_true rfl)) d_Row_addRow_27 ⟨Nat.le_refl _, Nat.le_refl _⟩) hw hA [0, 1] [2, 3] rfl rfl (by decide) (by decide) (fun H locs hw => ?_)
      have hw : mm_w (dC, dI) vwC A s [(h_o, .inr (0, [.ref h_o_kept, .int o_length])), (h_o_kept, .inl (cC, o_kept_n, .inl o_kept)), (h_r, .inr (0, [.ref h_r_kept, .int o_2])), (h_r_kept, .inl (cC, r_kept_n, .inl o_1))] H locs := hw
      refine lv_iinc (v := x3 + (1 : Int32)) (lv' := [(3, .int (x3 + (1 : Int32))), (0, .ref h_r), (1, .ref h_o), (2, .int x2)]) hx hb d_Row_addRow_30 hl (k := 3) rfl rfl (by decide) rfl (fun ls hl => ?_)
      refine lv_goto (tgt := 15) hx hb d_Row_addRow_33 (by decide) ?_
      exact ih o_1 o_2 x2 (x3 + (1 : Int32)) hf _ _ (mm_wsub hw [2, 3, 0, 1] (by decide) rfl rfl) _ (lv_sub hl [1, 2, 3, 0] rfl)
set_option maxHeartbeats 4000000 in
set_option maxRecDepth 100000 in
theorem c_Row_addRow (l : Launch) {Z : (Nat → Prop) → State → Heap → Prop} {ad adK adV : Nat → Nat} (Zo : mm_Zx Z ad adK adV) (dC : Nat → ClassId) (dI : Nat → Nat → Nat) (cC cI cJ cQ : ClassId) (N : Nat) (r_kept_n : Nat) (r_kept : Nat → Int32) (r_length : Int32) (o_kept_n : Nat) (o_kept : Nat → Int32) (o_length : Int32) (h_r h_r_kept h_o h_o_kept : Nat) (sz : Nat) (out : (Nat → Int32) × Int32) (hf : f_Row_addRow N r_kept_n r_kept r_length o_kept_n o_kept o_length = some out) : Met l y_Row_addRow w_Row_addRow r_Row_addRow (mm_pre (dC, dI) vwC (tyl cC cI cJ cQ) Z [(h_r, .inr (0, [.ref h_r_kept, .int r_length])), (h_r_kept, .inl (cC, r_kept_n, .inl r_kept)), (h_o, .inr (0, [.ref h_o_kept, .int o_length])), (h_o_kept, .inl (cC, o_kept_n, .inl o_kept))] sz [.ref h_r, .ref h_o]) (mm_qv (dC, dI) vwC (tyl cC cI cJ cQ) (va_A [(h_r, .inr (0, [.ref h_r_kept, .int r_length])), (h_r_kept, .inl (cC, r_kept_n, .inl r_kept)), (h_o, .inr (0, [.ref h_o_kept, .int o_length])), (h_o_kept, .inl (cC, o_kept_n, .inl o_kept))] sz) [(h_r, .inr (0, [.ref h_r_kept, .int out.2])), (h_r_kept, .inl (cC, r_kept_n, .inl out.1)), (h_o, .inr (0, [.ref h_o_kept, .int o_length])), (h_o_kept, .inl (cC, o_kept_n, .inl o_kept))]) 0 0 (va_A [(h_r, .inr (0, [.ref h_r_kept, .int r_length])), (h_r_kept, .inl (cC, r_kept_n, .inl r_kept)), (h_o, .inr (0, [.ref h_o_kept, .int o_length])), (h_o_kept, .inl (cC, o_kept_n, .inl o_kept))] sz) := by
  refine mm_of (own := "DirectivePrinter$Row") (cc := b_Row_addRow) (maxL := 4) (ret := none) (by decide) rfl rfl ?_
  intro p e s m below meth c hsz C0 hw hname
  generalize (va_A [(h_r, .inr (0, [.ref h_r_kept, .int r_length])), (h_r_kept, .inl (cC, r_kept_n, .inl r_kept)), (h_o, .inr (0, [.ref h_o_kept, .int o_length])), (h_o_kept, .inl (cC, o_kept_n, .inl o_kept))] sz) = A at C0 hw ⊢
  have hl := lv_entry ([.ref h_r, .ref h_o]) (n := 4) (Nat.le_of_ble_eq_true rfl)
  rw [lg_entry_eq]
  generalize (lg_sl ([.ref h_r, .ref h_o]) ++ List.replicate (4 - (lg_sl ([.ref h_r, .ref h_o])).length) Slot.unset).toArray = ls at hl ⊢
  have hl : lv_has ls 4 [(0, .ref h_r), (1, .ref h_o)] := hl
  obtain ⟨hx, hb, hr, hml, hown, hts, hlocks, hK, hZ, hA⟩ := id C0
  generalize s.heap = H at hw ⊢
  unfold f_Row_addRow at hf
  refine lv_aload_n hx hb d_Row_addRow_0 rfl (lv_at hl 1 rfl) ?_
  refine va_get (D := (dC, dI)) (ci := 0) (v := .int o_length) (C := "DirectivePrinter$Row") (T := T_Row) (N := 2) hx hb hts (mm_up i_Row) hown hK hw.1 2 rfl rfl 1 (by decide) (hts _ (List.mem_cons_of_mem _ q_92)) (fun _ h9 => h9) rfl d_Row_addRow_1 ?_
  refine lv_aload_n hx hb d_Row_addRow_4 rfl (lv_at hl 1 rfl) ?_
  refine va_get (D := (dC, dI)) (ci := 0) (v := .ref h_o_kept) (C := "DirectivePrinter$Row") (T := T_Row) (N := 2) hx hb hts (mm_up i_Row) hown hK hw.1 2 rfl rfl 0 (by decide) (hts _ (List.mem_cons_of_mem _ q_91)) (fun _ h9 => h9) rfl d_Row_addRow_5 ?_
  refine va_alen hx hb hK hw.1 3 0 rfl rfl (v := nI o_kept_n) rfl d_Row_addRow_8 ?_
  refine va_mmin hx hb (hml.trans hl.1.symm) hown (hts _ (List.mem_cons_of_mem _ q_514)) (hts _ (List.mem_cons_of_mem _ q_300)) (hts _ (List.mem_cons_of_mem _ q_56)) (hts _ (List.mem_cons_of_mem _ q_301)) (Nat.le_of_ble_eq_true rfl) (Nat.le_of_ble_eq_true rfl) (Nat.zero_le _) (Nat.zero_le _) d_Row_addRow_9 ?_
  refine lv_istore_n (lv' := [(2, .int (if (nI o_kept_n) < o_length then (nI o_kept_n) else o_length)), (0, .ref h_r), (1, .ref h_o)]) hx hb d_Row_addRow_12 rfl hl (by decide) rfl (fun ls hl => ?_)
  refine lv_iconst (v := (0 : Int32)) hx hb d_Row_addRow_13 (by decide) ?_
  refine lv_istore_n (lv' := [(3, .int (0 : Int32)), (2, .int (if (nI o_kept_n) < o_length then (nI o_kept_n) else o_length)), (0, .ref h_r), (1, .ref h_o)]) hx hb d_Row_addRow_14 rfl hl (by decide) rfl (fun ls hl => ?_)
  exact b_Row_addRow_15 Zo C0 N r_kept_n o_kept_n o_kept o_length  out N r_kept r_length (if (nI o_kept_n) < o_length then (nI o_kept_n) else o_length) (0 : Int32) hf _ _ hw _ (lv_sub hl [2, 3, 1, 0] rfl)
/-! DirectivePrinter$Row.addMany(CI)V -/
def f_Row_addMany_33 (r_kept_n : Nat) (ch : Int32) (n : Int32) : Nat → (Nat → Int32) → Int32 → Int32 → Int32 → Option ((Nat → Int32) × Int32)
  | 0, _, _, _, _ => none
  | fu + 1, r_kept, r_length, x3, x4 => (if x3 ≤ x4 then some (r_kept, r_length + n) else (if x4 < 0 ∨ r_kept_n ≤ x4.toNatClampNeg then none else f_Row_addMany_33 r_kept_n ch n fu (upd r_kept x4.toNatClampNeg (vp_nar .char ch)) r_length x3 (x4 + (1 : Int32))))
def f_Row_addMany (N : Nat) (r_kept_n : Nat) (r_kept : Nat → Int32) (r_length : Int32) (ch : Int32) (n : Int32) : Option ((Nat → Int32) × Int32) := (if n ≤ 0 then some (r_kept, r_length) else (if 0 ≤ r_length then f_Row_addMany_33 r_kept_n ch n N r_kept r_length (if (nI r_kept_n) < (r_length + n) then (nI r_kept_n) else (r_length + n)) r_length else some (r_kept, r_length)))
abbrev r_Row_addMany : Room := { frames := 1, cells := 0, slots := 0, locals := 13 }
set_option maxHeartbeats 4000000 in
set_option maxRecDepth 100000 in
theorem b_Row_addMany_33 {h_r h_r_kept : Nat} (Zo : mm_Zx Z ad adK adV) (C0 : mm_cx (dC, dI) vwC (tyl cC cI cJ cQ) Z p s m args meth c b_Row_addMany 5 none "DirectivePrinter$Row" w_Row_addMany A) (N : Nat) (r_kept_n : Nat) (ch : Int32) (n : Int32) (out : (Nat → Int32) × Int32) : ∀ (fuel : Nat) (r_kept : Nat → Int32) (r_length : Int32) (x3 : Int32) (x4 : Int32), f_Row_addMany_33 r_kept_n ch n fuel r_kept r_length x3 x4 = some out → ∀ (H : Heap) (locs : List Loc), mm_w (dC, dI) vwC A s [(h_r, .inr (0, [.ref h_r_kept, .int r_length])), (h_r_kept, .inl (cC, r_kept_n, .inl r_kept))] H locs → ∀ (ls : Array Slot), lv_has ls 5 [(0, .ref h_r), (1, .int ch), (2, .int n), (3, .int x3), (4, .int x4)] → W p l e r_Row_addMany s m args below meth c H locs 0 0 (MQ below (mm_qv (dC, dI) vwC (tyl cC cI cJ cQ) A [(h_r, .inr (0, [.ref h_r_kept, .int out.2])), (h_r_kept, .inl (cC, r_kept_n, .inl out.1))]) args s 0 0 A) (F0 m 33 ls []) := by
  obtain ⟨hx, hb, hr, hml, hown, hts, hlocks, hK, hZ, hA⟩ := id C0
  intro fuel
  induction fuel with
  | zero =>
    intro r_kept r_length x3 x4 hf
    cases (show (none : Option ((Nat → Int32) × Int32)) = some out from hf)
  | succ fu ih =>
    intro r_kept r_length x3 x4 hf H locs hw ls hl
    unfold f_Row_addMany_33 at hf
    refine lv_iload hx hb d_Row_addMany_33 (lv_at hl 4 rfl) ?_
    refine lv_iload_n hx hb d_Row_addMany_35 rfl (lv_at hl 3 rfl) ?_
    refine lv_icmp_ge (tgt := 53) hx hb d_Row_addMany_36 (by decide) (fun hc => ?_) (fun hc => ?_)
    · replace hf := mm_ip hc hf
      refine lv_aload_n hx hb d_Row_addMany_53 rfl (lv_at hl 0 rfl) ?_
      refine lv_dup hx hb d_Row_addMany_54 rfl ?_
      refine va_get (D := (dC, dI)) (ci := 0) (v := .int r_length) (C := "DirectivePrinter$Row") (T := T_Row) (N := 2) hx hb hts (mm_up i_Row) hown hK hw.1 0 rfl rfl 1 (by decide) (hts _ (List.mem_cons_of_mem _ q_92)) (fun _ h9 => h9) rfl d_Row_addMany_55 ?_
      refine lv_iload_n hx hb d_Row_addMany_58 rfl (lv_at hl 2 rfl) ?_
      refine lv_iadd hx hb d_Row_addMany_59 ?_
      refine va_put (D := (dC, dI)) (ci := 0) (v := .int (r_length + n)) (ty := .int) (C := "DirectivePrinter$Row") (T := T_Row) (N := 2) hx hb hts (mm_up i_Row) t_Row t_Row_ok n_Row hown hK hw.1 hw.2.1 hw.2.2 0 rfl rfl 1 (by decide) (hts _ (List.mem_cons_of_mem _ q_92)) (fun _ h9 => h9) rfl (by decide +kernel) rfl rfl (Nat.le_of_ble_eq_true rfl) d_Row_addMany_60 (fun H locs hP hD hS => ?_)
      have hw : mm_w (dC, dI) vwC A s [(h_r, .inr (0, [.ref h_r_kept, .int (r_length + n)])), (h_r_kept, .inl (cC, r_kept_n, .inl r_kept))] H locs := ⟨hP, hD, hS⟩
      obtain rfl := Option.some.inj hf
      exact mm_vret hx hb hr hlocks hK (mm_wsub hw [0, 1] (by decide) rfl rfl) d_Row_addMany_63
    · replace hf := mm_in hc hf
      refine lv_aload_n hx hb d_Row_addMany_39 rfl (lv_at hl 0 rfl) ?_
      refine va_get (D := (dC, dI)) (ci := 0) (v := .ref h_r_kept) (C := "DirectivePrinter$Row") (T := T_Row) (N := 2) hx hb hts (mm_up i_Row) hown hK hw.1 0 rfl rfl 0 (by decide) (hts _ (List.mem_cons_of_mem _ q_91)) (fun _ h9 => h9) rfl d_Row_addMany_40 ?_
      refine lv_iload hx hb d_Row_addMany_43 (lv_at hl 4 rfl) ?_
      refine lv_iload_n hx hb d_Row_addMany_45 rfl (lv_at hl 1 rfl) ?_
      obtain ⟨hz, hf⟩ := mm_grd hf
      refine va_cast hx hb hK hw.1 hw.2.1 hw.2.2 1 0 rfl rfl hz d_Row_addMany_46 (fun H locs hP hD hS => ?_)
      have hw : mm_w (dC, dI) vwC A s [(h_r, .inr (0, [.ref h_r_kept, .int r_length])), (h_r_kept, .inl (cC, r_kept_n, .inl (upd r_kept x4.toNatClampNeg (vp_nar .char ch))))] H locs := ⟨hP, hD, hS⟩
      refine lv_iinc (v := x4 + (1 : Int32)) (lv' := [(4, .int (x4 + (1 : Int32))), (0, .ref h_r), (1, .int ch), (2, .int n), (3, .int x3)]) hx hb d_Row_addMany_47 hl (k := 4) rfl rfl (by decide) rfl (fun ls hl => ?_)
      refine lv_goto (tgt := 33) hx hb d_Row_addMany_50 (by decide) ?_
      exact ih (upd r_kept x4.toNatClampNeg (vp_nar .char ch)) r_length x3 (x4 + (1 : Int32)) hf _ _ hw _ (lv_sub hl [1, 2, 3, 4, 0] rfl)
set_option maxHeartbeats 4000000 in
set_option maxRecDepth 100000 in
theorem c_Row_addMany (l : Launch) {Z : (Nat → Prop) → State → Heap → Prop} {ad adK adV : Nat → Nat} (Zo : mm_Zx Z ad adK adV) (dC : Nat → ClassId) (dI : Nat → Nat → Nat) (cC cI cJ cQ : ClassId) (N : Nat) (r_kept_n : Nat) (r_kept : Nat → Int32) (r_length : Int32) (ch : Int32) (n : Int32) (h_r h_r_kept : Nat) (sz : Nat) (out : (Nat → Int32) × Int32) (hf : f_Row_addMany N r_kept_n r_kept r_length ch n = some out) : Met l y_Row_addMany w_Row_addMany r_Row_addMany (mm_pre (dC, dI) vwC (tyl cC cI cJ cQ) Z [(h_r, .inr (0, [.ref h_r_kept, .int r_length])), (h_r_kept, .inl (cC, r_kept_n, .inl r_kept))] sz [.ref h_r, .int ch, .int n]) (mm_qv (dC, dI) vwC (tyl cC cI cJ cQ) (va_A [(h_r, .inr (0, [.ref h_r_kept, .int r_length])), (h_r_kept, .inl (cC, r_kept_n, .inl r_kept))] sz) [(h_r, .inr (0, [.ref h_r_kept, .int out.2])), (h_r_kept, .inl (cC, r_kept_n, .inl out.1))]) 0 0 (va_A [(h_r, .inr (0, [.ref h_r_kept, .int r_length])), (h_r_kept, .inl (cC, r_kept_n, .inl r_kept))] sz) := by
  refine mm_of (own := "DirectivePrinter$Row") (cc := b_Row_addMany) (maxL := 5) (ret := none) (by decide) rfl rfl ?_
  intro p e s m below meth c hsz C0 hw hname
  generalize (va_A [(h_r, .inr (0, [.ref h_r_kept, .int r_length])), (h_r_kept, .inl (cC, r_kept_n, .inl r_kept))] sz) = A at C0 hw ⊢
  have hl := lv_entry ([.ref h_r, .int ch, .int n]) (n := 5) (Nat.le_of_ble_eq_true rfl)
  rw [lg_entry_eq]
  generalize (lg_sl ([.ref h_r, .int ch, .int n]) ++ List.replicate (5 - (lg_sl ([.ref h_r, .int ch, .int n])).length) Slot.unset).toArray = ls at hl ⊢
  have hl : lv_has ls 5 [(0, .ref h_r), (1, .int ch), (2, .int n)] := hl
  obtain ⟨hx, hb, hr, hml, hown, hts, hlocks, hK, hZ, hA⟩ := id C0
  generalize s.heap = H at hw ⊢
  unfold f_Row_addMany at hf
  refine lv_iload_n hx hb d_Row_addMany_0 rfl (lv_at hl 2 rfl) ?_
  refine lv_if_le (tgt := 11) hx hb d_Row_addMany_1 (by decide) (fun hc => ?_) (fun hc => ?_)
  · replace hf := mm_ip hc hf
    obtain rfl := Option.some.inj hf
    exact mm_vret hx hb hr hlocks hK (mm_wsub hw [0, 1] (by decide) rfl rfl) d_Row_addMany_11
  · replace hf := mm_in hc hf
    refine lv_aload_n hx hb d_Row_addMany_4 rfl (lv_at hl 0 rfl) ?_
    refine va_get (D := (dC, dI)) (ci := 0) (v := .int r_length) (C := "DirectivePrinter$Row") (T := T_Row) (N := 2) hx hb hts (mm_up i_Row) hown hK hw.1 0 rfl rfl 1 (by decide) (hts _ (List.mem_cons_of_mem _ q_92)) (fun _ h9 => h9) rfl d_Row_addMany_5 ?_
    refine lv_if_ge (tgt := 12) hx hb d_Row_addMany_8 (by decide) (fun hc => ?_) (fun hc => ?_)
    · replace hf := mm_ip hc hf
      refine lv_aload_n hx hb d_Row_addMany_12 rfl (lv_at hl 0 rfl) ?_
      refine va_get (D := (dC, dI)) (ci := 0) (v := .int r_length) (C := "DirectivePrinter$Row") (T := T_Row) (N := 2) hx hb hts (mm_up i_Row) hown hK hw.1 0 rfl rfl 1 (by decide) (hts _ (List.mem_cons_of_mem _ q_92)) (fun _ h9 => h9) rfl d_Row_addMany_13 ?_
      refine lv_iload_n hx hb d_Row_addMany_16 rfl (lv_at hl 2 rfl) ?_
      refine lv_iadd hx hb d_Row_addMany_17 ?_
      refine lv_aload_n hx hb d_Row_addMany_18 rfl (lv_at hl 0 rfl) ?_
      refine va_get (D := (dC, dI)) (ci := 0) (v := .ref h_r_kept) (C := "DirectivePrinter$Row") (T := T_Row) (N := 2) hx hb hts (mm_up i_Row) hown hK hw.1 0 rfl rfl 0 (by decide) (hts _ (List.mem_cons_of_mem _ q_91)) (fun _ h9 => h9) rfl d_Row_addMany_19 ?_
      refine va_alen hx hb hK hw.1 1 0 rfl rfl (v := nI r_kept_n) rfl d_Row_addMany_22 ?_
      refine va_mmin hx hb (hml.trans hl.1.symm) hown (hts _ (List.mem_cons_of_mem _ q_514)) (hts _ (List.mem_cons_of_mem _ q_300)) (hts _ (List.mem_cons_of_mem _ q_56)) (hts _ (List.mem_cons_of_mem _ q_301)) (Nat.le_of_ble_eq_true rfl) (Nat.le_of_ble_eq_true rfl) (Nat.zero_le _) (Nat.zero_le _) d_Row_addMany_23 ?_
      refine lv_istore_n (lv' := [(3, .int (if (nI r_kept_n) < (r_length + n) then (nI r_kept_n) else (r_length + n))), (0, .ref h_r), (1, .int ch), (2, .int n)]) hx hb d_Row_addMany_26 rfl hl (by decide) rfl (fun ls hl => ?_)
      refine lv_aload_n hx hb d_Row_addMany_27 rfl (lv_at hl 1 rfl) ?_
      refine va_get (D := (dC, dI)) (ci := 0) (v := .int r_length) (C := "DirectivePrinter$Row") (T := T_Row) (N := 2) hx hb hts (mm_up i_Row) hown hK hw.1 0 rfl rfl 1 (by decide) (hts _ (List.mem_cons_of_mem _ q_92)) (fun _ h9 => h9) rfl d_Row_addMany_28 ?_
      refine lv_istore (lv' := [(4, .int r_length), (3, .int (if (nI r_kept_n) < (r_length + n) then (nI r_kept_n) else (r_length + n))), (0, .ref h_r), (1, .int ch), (2, .int n)]) hx hb d_Row_addMany_31 hl (by decide) rfl (fun ls hl => ?_)
      exact b_Row_addMany_33 Zo C0 N r_kept_n ch n  out N r_kept r_length (if (nI r_kept_n) < (r_length + n) then (nI r_kept_n) else (r_length + n)) r_length hf _ _ hw _ (lv_sub hl [2, 3, 4, 1, 0] rfl)
    · replace hf := mm_in hc hf
      obtain rfl := Option.some.inj hf
      exact mm_vret hx hb hr hlocks hK (mm_wsub hw [0, 1] (by decide) rfl rfl) d_Row_addMany_11
/-! DirectivePrinter$Row.insert(ICI)V -/
def f_Row_insert_85 (r_kept_n : Nat) (ch : Int32) (n : Int32) : Nat → (Nat → Int32) → Int32 → Int32 → Int32 → Option ((Nat → Int32) × Int32)
  | 0, _, _, _, _ => none
  | fu + 1, r_kept, r_length, x5, x6 => (if x5 ≤ x6 then some (r_kept, r_length + n) else (if x6 < 0 ∨ r_kept_n ≤ x6.toNatClampNeg then none else f_Row_insert_85 r_kept_n ch n fu (upd r_kept x6.toNatClampNeg (vp_nar .char ch)) r_length x5 (x6 + (1 : Int32))))
def f_Row_insert_39 (N : Nat) (r_kept_n : Nat) (pos : Int32) (ch : Int32) (n : Int32) : Nat → (Nat → Int32) → Int32 → Int32 → Option ((Nat → Int32) × Int32)
  | 0, _, _, _ => none
  | fu + 1, r_kept, r_length, x5 => (if x5 < (pos + n) then f_Row_insert_85 r_kept_n ch n N r_kept r_length (if (nI r_kept_n) < (pos + n) then (nI r_kept_n) else (pos + n)) pos else (if (x5 - n) < 0 ∨ r_kept_n ≤ (x5 - n).toNatClampNeg then none else (if x5 < 0 ∨ r_kept_n ≤ x5.toNatClampNeg then none else f_Row_insert_39 N r_kept_n pos ch n fu (upd r_kept x5.toNatClampNeg (vp_nar .char (r_kept (x5 - n).toNatClampNeg))) r_length (x5 + (-1 : Int32)))))
def f_Row_insert (N : Nat) (r_kept_n : Nat) (r_kept : Nat → Int32) (r_length : Int32) (pos : Int32) (ch : Int32) (n : Int32) : Option ((Nat → Int32) × Int32) := (if n ≤ 0 then some (r_kept, r_length) else (if pos < 0 then some (r_kept, r_length) else (if pos ≤ r_length then f_Row_insert_39 N r_kept_n pos ch n N r_kept r_length ((if (nI r_kept_n) < (r_length + n) then (nI r_kept_n) else (r_length + n)) - (1 : Int32)) else some (r_kept, r_length))))
abbrev r_Row_insert : Room := { frames := 1, cells := 0, slots := 0, locals := 13 }
set_option maxHeartbeats 4000000 in
set_option maxRecDepth 100000 in
theorem b_Row_insert_85 {h_r h_r_kept : Nat} (Zo : mm_Zx Z ad adK adV) (C0 : mm_cx (dC, dI) vwC (tyl cC cI cJ cQ) Z p s m args meth c b_Row_insert 7 none "DirectivePrinter$Row" w_Row_insert A) (N : Nat) (r_kept_n : Nat) (pos : Int32) (ch : Int32) (n : Int32) (out : (Nat → Int32) × Int32) : ∀ (fuel : Nat) (r_kept : Nat → Int32) (r_length : Int32) (x5 : Int32) (x6 : Int32), f_Row_insert_85 r_kept_n ch n fuel r_kept r_length x5 x6 = some out → ∀ (H : Heap) (locs : List Loc), mm_w (dC, dI) vwC A s [(h_r, .inr (0, [.ref h_r_kept, .int r_length])), (h_r_kept, .inl (cC, r_kept_n, .inl r_kept))] H locs → ∀ (ls : Array Slot), lv_has ls 7 [(0, .ref h_r), (2, .int ch), (3, .int n), (5, .int x5), (6, .int x6)] → W p l e r_Row_insert s m args below meth c H locs 0 0 (MQ below (mm_qv (dC, dI) vwC (tyl cC cI cJ cQ) A [(h_r, .inr (0, [.ref h_r_kept, .int out.2])), (h_r_kept, .inl (cC, r_kept_n, .inl out.1))]) args s 0 0 A) (F0 m 85 ls []) := by
  obtain ⟨hx, hb, hr, hml, hown, hts, hlocks, hK, hZ, hA⟩ := id C0
  intro fuel
  induction fuel with
  | zero =>
    intro r_kept r_length x5 x6 hf
    cases (show (none : Option ((Nat → Int32) × Int32)) = some out from hf)
  | succ fu ih =>
    intro r_kept r_length x5 x6 hf H locs hw ls hl
    unfold f_Row_insert_85 at hf
    refine lv_iload hx hb d_Row_insert_85 (lv_at hl 4 rfl) ?_
    refine lv_iload hx hb d_Row_insert_87 (lv_at hl 3 rfl) ?_
    refine lv_icmp_ge (tgt := 106) hx hb d_Row_insert_89 (by decide) (fun hc => ?_) (fun hc => ?_)
    · replace hf := mm_ip hc hf
      refine lv_aload_n hx hb d_Row_insert_106 rfl (lv_at hl 0 rfl) ?_
      refine lv_dup hx hb d_Row_insert_107 rfl ?_
      refine va_get (D := (dC, dI)) (ci := 0) (v := .int r_length) (C := "DirectivePrinter$Row") (T := T_Row) (N := 2) hx hb hts (mm_up i_Row) hown hK hw.1 0 rfl rfl 1 (by decide) (hts _ (List.mem_cons_of_mem _ q_92)) (fun _ h9 => h9) rfl d_Row_insert_108 ?_
      refine lv_iload_n hx hb d_Row_insert_111 rfl (lv_at hl 2 rfl) ?_
      refine lv_iadd hx hb d_Row_insert_112 ?_
      refine va_put (D := (dC, dI)) (ci := 0) (v := .int (r_length + n)) (ty := .int) (C := "DirectivePrinter$Row") (T := T_Row) (N := 2) hx hb hts (mm_up i_Row) t_Row t_Row_ok n_Row hown hK hw.1 hw.2.1 hw.2.2 0 rfl rfl 1 (by decide) (hts _ (List.mem_cons_of_mem _ q_92)) (fun _ h9 => h9) rfl (by decide +kernel) rfl rfl (Nat.le_of_ble_eq_true rfl) d_Row_insert_113 (fun H locs hP hD hS => ?_)
      have hw : mm_w (dC, dI) vwC A s [(h_r, .inr (0, [.ref h_r_kept, .int (r_length + n)])), (h_r_kept, .inl (cC, r_kept_n, .inl r_kept))] H locs := ⟨hP, hD, hS⟩
      obtain rfl := Option.some.inj hf
      exact mm_vret hx hb hr hlocks hK (mm_wsub hw [0, 1] (by decide) rfl rfl) d_Row_insert_116
    · replace hf := mm_in hc hf
      refine lv_aload_n hx hb d_Row_insert_92 rfl (lv_at hl 0 rfl) ?_
      refine va_get (D := (dC, dI)) (ci := 0) (v := .ref h_r_kept) (C := "DirectivePrinter$Row") (T := T_Row) (N := 2) hx hb hts (mm_up i_Row) hown hK hw.1 0 rfl rfl 0 (by decide) (hts _ (List.mem_cons_of_mem _ q_91)) (fun _ h9 => h9) rfl d_Row_insert_93 ?_
      refine lv_iload hx hb d_Row_insert_96 (lv_at hl 4 rfl) ?_
      refine lv_iload_n hx hb d_Row_insert_98 rfl (lv_at hl 1 rfl) ?_
      obtain ⟨hz, hf⟩ := mm_grd hf
      refine va_cast hx hb hK hw.1 hw.2.1 hw.2.2 1 0 rfl rfl hz d_Row_insert_99 (fun H locs hP hD hS => ?_)
      have hw : mm_w (dC, dI) vwC A s [(h_r, .inr (0, [.ref h_r_kept, .int r_length])), (h_r_kept, .inl (cC, r_kept_n, .inl (upd r_kept x6.toNatClampNeg (vp_nar .char ch))))] H locs := ⟨hP, hD, hS⟩
      refine lv_iinc (v := x6 + (1 : Int32)) (lv' := [(6, .int (x6 + (1 : Int32))), (0, .ref h_r), (2, .int ch), (3, .int n), (5, .int x5)]) hx hb d_Row_insert_100 hl (k := 4) rfl rfl (by decide) rfl (fun ls hl => ?_)
      refine lv_goto (tgt := 85) hx hb d_Row_insert_103 (by decide) ?_
      exact ih (upd r_kept x6.toNatClampNeg (vp_nar .char ch)) r_length x5 (x6 + (1 : Int32)) hf _ _ hw _ (lv_sub hl [1, 2, 3, 4, 0] rfl)
set_option maxHeartbeats 4000000 in
set_option maxRecDepth 100000 in
theorem b_Row_insert_39 {h_r h_r_kept : Nat} (Zo : mm_Zx Z ad adK adV) (C0 : mm_cx (dC, dI) vwC (tyl cC cI cJ cQ) Z p s m args meth c b_Row_insert 7 none "DirectivePrinter$Row" w_Row_insert A) (N : Nat) (r_kept_n : Nat) (pos : Int32) (ch : Int32) (n : Int32) (out : (Nat → Int32) × Int32) : ∀ (fuel : Nat) (r_kept : Nat → Int32) (r_length : Int32) (x5 : Int32), f_Row_insert_39 N r_kept_n pos ch n fuel r_kept r_length x5 = some out → ∀ (H : Heap) (locs : List Loc), mm_w (dC, dI) vwC A s [(h_r, .inr (0, [.ref h_r_kept, .int r_length])), (h_r_kept, .inl (cC, r_kept_n, .inl r_kept))] H locs → ∀ (ls : Array Slot), lv_has ls 7 [(0, .ref h_r), (1, .int pos), (2, .int ch), (3, .int n), (5, .int x5)] → W p l e r_Row_insert s m args below meth c H locs 0 0 (MQ below (mm_qv (dC, dI) vwC (tyl cC cI cJ cQ) A [(h_r, .inr (0, [.ref h_r_kept, .int out.2])), (h_r_kept, .inl (cC, r_kept_n, .inl out.1))]) args s 0 0 A) (F0 m 39 ls []) := by
  obtain ⟨hx, hb, hr, hml, hown, hts, hlocks, hK, hZ, hA⟩ := id C0
  intro fuel
  induction fuel with
  | zero =>
    intro r_kept r_length x5 hf
    cases (show (none : Option ((Nat → Int32) × Int32)) = some out from hf)
  | succ fu ih =>
    intro r_kept r_length x5 hf H locs hw ls hl
    unfold f_Row_insert_39 at hf
    refine lv_iload hx hb d_Row_insert_39 (lv_at hl 4 rfl) ?_
    refine lv_iload_n hx hb d_Row_insert_41 rfl (lv_at hl 1 rfl) ?_
    refine lv_iload_n hx hb d_Row_insert_42 rfl (lv_at hl 3 rfl) ?_
    refine lv_iadd hx hb d_Row_insert_43 ?_
    refine lv_icmp_lt (tgt := 69) hx hb d_Row_insert_44 (by decide) (fun hc => ?_) (fun hc => ?_)
    · replace hf := mm_ip hc hf
      refine lv_iload_n hx hb d_Row_insert_69 rfl (lv_at hl 1 rfl) ?_
      refine lv_iload_n hx hb d_Row_insert_70 rfl (lv_at hl 3 rfl) ?_
      refine lv_iadd hx hb d_Row_insert_71 ?_
      refine lv_aload_n hx hb d_Row_insert_72 rfl (lv_at hl 0 rfl) ?_
      refine va_get (D := (dC, dI)) (ci := 0) (v := .ref h_r_kept) (C := "DirectivePrinter$Row") (T := T_Row) (N := 2) hx hb hts (mm_up i_Row) hown hK hw.1 0 rfl rfl 0 (by decide) (hts _ (List.mem_cons_of_mem _ q_91)) (fun _ h9 => h9) rfl d_Row_insert_73 ?_
      refine va_alen hx hb hK hw.1 1 0 rfl rfl (v := nI r_kept_n) rfl d_Row_insert_76 ?_
      refine va_mmin hx hb (hml.trans hl.1.symm) hown (hts _ (List.mem_cons_of_mem _ q_514)) (hts _ (List.mem_cons_of_mem _ q_300)) (hts _ (List.mem_cons_of_mem _ q_56)) (hts _ (List.mem_cons_of_mem _ q_301)) (Nat.le_of_ble_eq_true rfl) (Nat.le_of_ble_eq_true rfl) (Nat.zero_le _) (Nat.zero_le _) d_Row_insert_77 ?_
      refine lv_istore (lv' := [(5, .int (if (nI r_kept_n) < (pos + n) then (nI r_kept_n) else (pos + n))), (0, .ref h_r), (1, .int pos), (2, .int ch), (3, .int n)]) hx hb d_Row_insert_80 hl (by decide) rfl (fun ls hl => ?_)
      refine lv_iload_n hx hb d_Row_insert_82 rfl (lv_at hl 2 rfl) ?_
      refine lv_istore (lv' := [(6, .int pos), (5, .int (if (nI r_kept_n) < (pos + n) then (nI r_kept_n) else (pos + n))), (0, .ref h_r), (1, .int pos), (2, .int ch), (3, .int n)]) hx hb d_Row_insert_83 hl (by decide) rfl (fun ls hl => ?_)
      exact b_Row_insert_85 Zo C0 N r_kept_n pos ch n  out N r_kept r_length (if (nI r_kept_n) < (pos + n) then (nI r_kept_n) else (pos + n)) pos hf _ _ hw _ (lv_sub hl [2, 4, 5, 1, 0] rfl)
    · replace hf := mm_in hc hf
      refine lv_aload_n hx hb d_Row_insert_47 rfl (lv_at hl 0 rfl) ?_
      refine va_get (D := (dC, dI)) (ci := 0) (v := .ref h_r_kept) (C := "DirectivePrinter$Row") (T := T_Row) (N := 2) hx hb hts (mm_up i_Row) hown hK hw.1 0 rfl rfl 0 (by decide) (hts _ (List.mem_cons_of_mem _ q_91)) (fun _ h9 => h9) rfl d_Row_insert_48 ?_
      refine lv_iload hx hb d_Row_insert_51 (lv_at hl 4 rfl) ?_
      refine lv_aload_n hx hb d_Row_insert_53 rfl (lv_at hl 0 rfl) ?_
      refine va_get (D := (dC, dI)) (ci := 0) (v := .ref h_r_kept) (C := "DirectivePrinter$Row") (T := T_Row) (N := 2) hx hb hts (mm_up i_Row) hown hK hw.1 0 rfl rfl 0 (by decide) (hts _ (List.mem_cons_of_mem _ q_91)) (fun _ h9 => h9) rfl d_Row_insert_54 ?_
      refine lv_iload hx hb d_Row_insert_57 (lv_at hl 4 rfl) ?_
      refine lv_iload_n hx hb d_Row_insert_59 rfl (lv_at hl 3 rfl) ?_
      refine lv_isub hx hb d_Row_insert_60 ?_
      obtain ⟨hz, hf⟩ := mm_grd hf
      refine va_cald hx hb hK hw.1 1 0 rfl rfl hz d_Row_insert_61 ?_
      obtain ⟨hz, hf⟩ := mm_grd hf
      refine va_cast hx hb hK hw.1 hw.2.1 hw.2.2 1 0 rfl rfl hz d_Row_insert_62 (fun H locs hP hD hS => ?_)
      have hw : mm_w (dC, dI) vwC A s [(h_r, .inr (0, [.ref h_r_kept, .int r_length])), (h_r_kept, .inl (cC, r_kept_n, .inl (upd r_kept x5.toNatClampNeg (vp_nar .char (r_kept (x5 - n).toNatClampNeg)))))] H locs := ⟨hP, hD, hS⟩
      refine lv_iinc (v := x5 + (-1 : Int32)) (lv' := [(5, .int (x5 + (-1 : Int32))), (0, .ref h_r), (1, .int pos), (2, .int ch), (3, .int n)]) hx hb d_Row_insert_63 hl (k := 4) rfl rfl (by decide) rfl (fun ls hl => ?_)
      refine lv_goto (tgt := 39) hx hb d_Row_insert_66 (by decide) ?_
      exact ih (upd r_kept x5.toNatClampNeg (vp_nar .char (r_kept (x5 - n).toNatClampNeg))) r_length (x5 + (-1 : Int32)) hf _ _ hw _ (lv_sub hl [1, 2, 3, 4, 0] rfl)
set_option maxHeartbeats 4000000 in
set_option maxRecDepth 100000 in
theorem c_Row_insert (l : Launch) {Z : (Nat → Prop) → State → Heap → Prop} {ad adK adV : Nat → Nat} (Zo : mm_Zx Z ad adK adV) (dC : Nat → ClassId) (dI : Nat → Nat → Nat) (cC cI cJ cQ : ClassId) (N : Nat) (r_kept_n : Nat) (r_kept : Nat → Int32) (r_length : Int32) (pos : Int32) (ch : Int32) (n : Int32) (h_r h_r_kept : Nat) (sz : Nat) (out : (Nat → Int32) × Int32) (hf : f_Row_insert N r_kept_n r_kept r_length pos ch n = some out) : Met l y_Row_insert w_Row_insert r_Row_insert (mm_pre (dC, dI) vwC (tyl cC cI cJ cQ) Z [(h_r, .inr (0, [.ref h_r_kept, .int r_length])), (h_r_kept, .inl (cC, r_kept_n, .inl r_kept))] sz [.ref h_r, .int pos, .int ch, .int n]) (mm_qv (dC, dI) vwC (tyl cC cI cJ cQ) (va_A [(h_r, .inr (0, [.ref h_r_kept, .int r_length])), (h_r_kept, .inl (cC, r_kept_n, .inl r_kept))] sz) [(h_r, .inr (0, [.ref h_r_kept, .int out.2])), (h_r_kept, .inl (cC, r_kept_n, .inl out.1))]) 0 0 (va_A [(h_r, .inr (0, [.ref h_r_kept, .int r_length])), (h_r_kept, .inl (cC, r_kept_n, .inl r_kept))] sz) := by
  refine mm_of (own := "DirectivePrinter$Row") (cc := b_Row_insert) (maxL := 7) (ret := none) (by decide) rfl rfl ?_
  intro p e s m below meth c hsz C0 hw hname
  generalize (va_A [(h_r, .inr (0, [.ref h_r_kept, .int r_length])), (h_r_kept, .inl (cC, r_kept_n, .inl r_kept))] sz) = A at C0 hw ⊢
  have hl := lv_entry ([.ref h_r, .int pos, .int ch, .int n]) (n := 7) (Nat.le_of_ble_eq_true rfl)
  rw [lg_entry_eq]
  generalize (lg_sl ([.ref h_r, .int pos, .int ch, .int n]) ++ List.replicate (7 - (lg_sl ([.ref h_r, .int pos, .int ch, .int n])).length) Slot.unset).toArray = ls at hl ⊢
  have hl : lv_has ls 7 [(0, .ref h_r), (1, .int pos), (2, .int ch), (3, .int n)] := hl
  obtain ⟨hx, hb, hr, hml, hown, hts, hlocks, hK, hZ, hA⟩ := id C0
  generalize s.heap = H at hw ⊢
  unfold f_Row_insert at hf
  refine lv_iload_n hx hb d_Row_insert_0 rfl (lv_at hl 3 rfl) ?_
  refine lv_if_le (tgt := 16) hx hb d_Row_insert_1 (by decide) (fun hc => ?_) (fun hc => ?_)
  · replace hf := mm_ip hc hf
    obtain rfl := Option.some.inj hf
    exact mm_vret hx hb hr hlocks hK (mm_wsub hw [0, 1] (by decide) rfl rfl) d_Row_insert_16
  · replace hf := mm_in hc hf
    refine lv_iload_n hx hb d_Row_insert_4 rfl (lv_at hl 1 rfl) ?_
    refine lv_if_lt (tgt := 16) hx hb d_Row_insert_5 (by decide) (fun hc => ?_) (fun hc => ?_)
    · replace hf := mm_ip hc hf
      obtain rfl := Option.some.inj hf
      exact mm_vret hx hb hr hlocks hK (mm_wsub hw [0, 1] (by decide) rfl rfl) d_Row_insert_16
    · replace hf := mm_in hc hf
      refine lv_iload_n hx hb d_Row_insert_8 rfl (lv_at hl 1 rfl) ?_
      refine lv_aload_n hx hb d_Row_insert_9 rfl (lv_at hl 0 rfl) ?_
      refine va_get (D := (dC, dI)) (ci := 0) (v := .int r_length) (C := "DirectivePrinter$Row") (T := T_Row) (N := 2) hx hb hts (mm_up i_Row) hown hK hw.1 0 rfl rfl 1 (by decide) (hts _ (List.mem_cons_of_mem _ q_92)) (fun _ h9 => h9) rfl d_Row_insert_10 ?_
      refine lv_icmp_le (tgt := 17) hx hb d_Row_insert_13 (by decide) (fun hc => ?_) (fun hc => ?_)
      · replace hf := mm_ip hc hf
        refine lv_aload_n hx hb d_Row_insert_17 rfl (lv_at hl 0 rfl) ?_
        refine va_get (D := (dC, dI)) (ci := 0) (v := .int r_length) (C := "DirectivePrinter$Row") (T := T_Row) (N := 2) hx hb hts (mm_up i_Row) hown hK hw.1 0 rfl rfl 1 (by decide) (hts _ (List.mem_cons_of_mem _ q_92)) (fun _ h9 => h9) rfl d_Row_insert_18 ?_
        refine lv_iload_n hx hb d_Row_insert_21 rfl (lv_at hl 3 rfl) ?_
        refine lv_iadd hx hb d_Row_insert_22 ?_
        refine lv_aload_n hx hb d_Row_insert_23 rfl (lv_at hl 0 rfl) ?_
        refine va_get (D := (dC, dI)) (ci := 0) (v := .ref h_r_kept) (C := "DirectivePrinter$Row") (T := T_Row) (N := 2) hx hb hts (mm_up i_Row) hown hK hw.1 0 rfl rfl 0 (by decide) (hts _ (List.mem_cons_of_mem _ q_91)) (fun _ h9 => h9) rfl d_Row_insert_24 ?_
        refine va_alen hx hb hK hw.1 1 0 rfl rfl (v := nI r_kept_n) rfl d_Row_insert_27 ?_
        refine va_mmin hx hb (hml.trans hl.1.symm) hown (hts _ (List.mem_cons_of_mem _ q_514)) (hts _ (List.mem_cons_of_mem _ q_300)) (hts _ (List.mem_cons_of_mem _ q_56)) (hts _ (List.mem_cons_of_mem _ q_301)) (Nat.le_of_ble_eq_true rfl) (Nat.le_of_ble_eq_true rfl) (Nat.zero_le _) (Nat.zero_le _) d_Row_insert_28 ?_
        refine lv_istore (lv' := [(4, .int (if (nI r_kept_n) < (r_length + n) then (nI r_kept_n) else (r_length + n))), (0, .ref h_r), (1, .int pos), (2, .int ch), (3, .int n)]) hx hb d_Row_insert_31 hl (by decide) rfl (fun ls hl => ?_)
        refine lv_iload hx hb d_Row_insert_33 (lv_at hl 0 rfl) ?_
        refine lv_iconst (v := (1 : Int32)) hx hb d_Row_insert_35 (by decide) ?_
        refine lv_isub hx hb d_Row_insert_36 ?_
        refine lv_istore (lv' := [(5, .int ((if (nI r_kept_n) < (r_length + n) then (nI r_kept_n) else (r_length + n)) - (1 : Int32))), (4, .int (if (nI r_kept_n) < (r_length + n) then (nI r_kept_n) else (r_length + n))), (0, .ref h_r), (1, .int pos), (2, .int ch), (3, .int n)]) hx hb d_Row_insert_37 hl (by decide) rfl (fun ls hl => ?_)
        exact b_Row_insert_39 Zo C0 N r_kept_n pos ch n  out N r_kept r_length ((if (nI r_kept_n) < (r_length + n) then (nI r_kept_n) else (r_length + n)) - (1 : Int32)) hf _ _ hw _ (lv_sub hl [2, 3, 4, 5, 0] rfl)
      · replace hf := mm_in hc hf
        obtain rfl := Option.some.inj hf
        exact mm_vret hx hb hr hlocks hK (mm_wsub hw [0, 1] (by decide) rfl rfl) d_Row_insert_16
/-! DirectivePrinter$Row.cutTo(I)V -/
def f_Row_cutTo (r_length : Int32) (sz0 : Int32) : Option (Int32) := (if sz0 < 0 then some (r_length) else (if r_length ≤ sz0 then some (r_length) else some (sz0)))
abbrev r_Row_cutTo : Room := { frames := 0, cells := 0, slots := 0, locals := 0 }
set_option maxHeartbeats 4000000 in
set_option maxRecDepth 100000 in
theorem c_Row_cutTo (l : Launch) {Z : (Nat → Prop) → State → Heap → Prop} {ad adK adV : Nat → Nat} (Zo : mm_Zx Z ad adK adV) (dC : Nat → ClassId) (dI : Nat → Nat → Nat) (cC cI cJ cQ : ClassId) (r_kept_n : Nat) (r_kept : Nat → Int32) (r_length : Int32) (sz0 : Int32) (h_r h_r_kept : Nat) (sz : Nat) (out : Int32) (hf : f_Row_cutTo r_length sz0 = some out) : Met l y_Row_cutTo w_Row_cutTo r_Row_cutTo (mm_pre (dC, dI) vwC (tyl cC cI cJ cQ) Z [(h_r, .inr (0, [.ref h_r_kept, .int r_length])), (h_r_kept, .inl (cC, r_kept_n, .inl r_kept))] sz [.ref h_r, .int sz0]) (mm_qv (dC, dI) vwC (tyl cC cI cJ cQ) (va_A [(h_r, .inr (0, [.ref h_r_kept, .int r_length])), (h_r_kept, .inl (cC, r_kept_n, .inl r_kept))] sz) [(h_r, .inr (0, [.ref h_r_kept, .int out])), (h_r_kept, .inl (cC, r_kept_n, .inl r_kept))]) 0 0 (va_A [(h_r, .inr (0, [.ref h_r_kept, .int r_length])), (h_r_kept, .inl (cC, r_kept_n, .inl r_kept))] sz) := by
  refine mm_of (own := "DirectivePrinter$Row") (cc := b_Row_cutTo) (maxL := 2) (ret := none) (by decide) rfl rfl ?_
  intro p e s m below meth c hsz C0 hw hname
  generalize (va_A [(h_r, .inr (0, [.ref h_r_kept, .int r_length])), (h_r_kept, .inl (cC, r_kept_n, .inl r_kept))] sz) = A at C0 hw ⊢
  have hl := lv_entry ([.ref h_r, .int sz0]) (n := 2) (Nat.le_of_ble_eq_true rfl)
  rw [lg_entry_eq]
  generalize (lg_sl ([.ref h_r, .int sz0]) ++ List.replicate (2 - (lg_sl ([.ref h_r, .int sz0])).length) Slot.unset).toArray = ls at hl ⊢
  have hl : lv_has ls 2 [(0, .ref h_r), (1, .int sz0)] := hl
  obtain ⟨hx, hb, hr, hml, hown, hts, hlocks, hK, hZ, hA⟩ := id C0
  generalize s.heap = H at hw ⊢
  unfold f_Row_cutTo at hf
  refine lv_iload_n hx hb d_Row_cutTo_0 rfl (lv_at hl 1 rfl) ?_
  refine lv_if_lt (tgt := 17) hx hb d_Row_cutTo_1 (by decide) (fun hc => ?_) (fun hc => ?_)
  · replace hf := mm_ip hc hf
    obtain rfl := Option.some.inj hf
    exact mm_vret hx hb hr hlocks hK (mm_wsub hw [0, 1] (by decide) rfl rfl) d_Row_cutTo_17
  · replace hf := mm_in hc hf
    refine lv_iload_n hx hb d_Row_cutTo_4 rfl (lv_at hl 1 rfl) ?_
    refine lv_aload_n hx hb d_Row_cutTo_5 rfl (lv_at hl 0 rfl) ?_
    refine va_get (D := (dC, dI)) (ci := 0) (v := .int r_length) (C := "DirectivePrinter$Row") (T := T_Row) (N := 2) hx hb hts (mm_up i_Row) hown hK hw.1 0 rfl rfl 1 (by decide) (hts _ (List.mem_cons_of_mem _ q_92)) (fun _ h9 => h9) rfl d_Row_cutTo_6 ?_
    refine lv_icmp_ge (tgt := 17) hx hb d_Row_cutTo_9 (by decide) (fun hc => ?_) (fun hc => ?_)
    · replace hf := mm_ip hc hf
      obtain rfl := Option.some.inj hf
      exact mm_vret hx hb hr hlocks hK (mm_wsub hw [0, 1] (by decide) rfl rfl) d_Row_cutTo_17
    · replace hf := mm_in hc hf
      refine lv_aload_n hx hb d_Row_cutTo_12 rfl (lv_at hl 0 rfl) ?_
      refine lv_iload_n hx hb d_Row_cutTo_13 rfl (lv_at hl 1 rfl) ?_
      refine va_put (D := (dC, dI)) (ci := 0) (v := .int sz0) (ty := .int) (C := "DirectivePrinter$Row") (T := T_Row) (N := 2) hx hb hts (mm_up i_Row) t_Row t_Row_ok n_Row hown hK hw.1 hw.2.1 hw.2.2 0 rfl rfl 1 (by decide) (hts _ (List.mem_cons_of_mem _ q_92)) (fun _ h9 => h9) rfl (by decide +kernel) rfl rfl (Nat.le_of_ble_eq_true rfl) d_Row_cutTo_14 (fun H locs hP hD hS => ?_)
      have hw : mm_w (dC, dI) vwC A s [(h_r, .inr (0, [.ref h_r_kept, .int sz0])), (h_r_kept, .inl (cC, r_kept_n, .inl r_kept))] H locs := ⟨hP, hD, hS⟩
      obtain rfl := Option.some.inj hf
      exact mm_vret hx hb hr hlocks hK (mm_wsub hw [0, 1] (by decide) rfl rfl) d_Row_cutTo_17
/-! DirectivePrinter$Row.enlargeLettersFrom(I)V -/
def f_Row_enlargeLettersFrom_19 (r_kept_n : Nat) : Nat → (Nat → Int32) → Int32 → Int32 → Option ((Nat → Int32))
  | 0, _, _, _ => none
  | fu + 1, r_kept, x2, x3 => (if x2 ≤ x3 then some (r_kept) else (if x3 < 0 ∨ r_kept_n ≤ x3.toNatClampNeg then none else (if (r_kept x3.toNatClampNeg) < (97 : Int32) then f_Row_enlargeLettersFrom_19 r_kept_n fu r_kept x2 (x3 + (1 : Int32)) else (if x3 < 0 ∨ r_kept_n ≤ x3.toNatClampNeg then none else (if (122 : Int32) < (r_kept x3.toNatClampNeg) then f_Row_enlargeLettersFrom_19 r_kept_n fu r_kept x2 (x3 + (1 : Int32)) else (if x3 < 0 ∨ r_kept_n ≤ x3.toNatClampNeg then none else (if x3 < 0 ∨ r_kept_n ≤ x3.toNatClampNeg then none else f_Row_enlargeLettersFrom_19 r_kept_n fu (upd r_kept x3.toNatClampNeg (vp_nar .char (mm_c (((r_kept x3.toNatClampNeg) - (97 : Int32)) + (65 : Int32))))) x2 (x3 + (1 : Int32)))))))))
def f_Row_enlargeLettersFrom (N : Nat) (r_kept_n : Nat) (r_kept : Nat → Int32) (r_length : Int32) (start : Int32) : Option ((Nat → Int32)) := f_Row_enlargeLettersFrom_19 r_kept_n N r_kept (if (nI r_kept_n) < r_length then (nI r_kept_n) else r_length) (if start < (0 : Int32) then (0 : Int32) else start)
abbrev r_Row_enlargeLettersFrom : Room := { frames := 1, cells := 0, slots := 0, locals := 13 }
set_option maxHeartbeats 4000000 in
set_option maxRecDepth 100000 in
theorem b_Row_enlargeLettersFrom_19 {h_r h_r_kept : Nat} (Zo : mm_Zx Z ad adK adV) (C0 : mm_cx (dC, dI) vwC (tyl cC cI cJ cQ) Z p s m args meth c b_Row_enlargeLettersFrom 4 none "DirectivePrinter$Row" w_Row_enlargeLettersFrom A) (N : Nat) (r_kept_n : Nat) (r_length : Int32) (start : Int32) (out : (Nat → Int32)) : ∀ (fuel : Nat) (r_kept : Nat → Int32) (x2 : Int32) (x3 : Int32), f_Row_enlargeLettersFrom_19 r_kept_n fuel r_kept x2 x3 = some out → ∀ (H : Heap) (locs : List Loc), mm_w (dC, dI) vwC A s [(h_r, .inr (0, [.ref h_r_kept, .int r_length])), (h_r_kept, .inl (cC, r_kept_n, .inl r_kept))] H locs → ∀ (ls : Array Slot), lv_has ls 4 [(0, .ref h_r), (2, .int x2), (3, .int x3)] → W p l e r_Row_enlargeLettersFrom s m args below meth c H locs 0 0 (MQ below (mm_qv (dC, dI) vwC (tyl cC cI cJ cQ) A [(h_r, .inr (0, [.ref h_r_kept, .int r_length])), (h_r_kept, .inl (cC, r_kept_n, .inl out))]) args s 0 0 A) (F0 m 19 ls []) := by
  obtain ⟨hx, hb, hr, hml, hown, hts, hlocks, hK, hZ, hA⟩ := id C0
  intro fuel
  induction fuel with
  | zero =>
    intro r_kept x2 x3 hf
    cases (show (none : Option ((Nat → Int32))) = some out from hf)
  | succ fu ih =>
    intro r_kept x2 x3 hf H locs hw ls hl
    unfold f_Row_enlargeLettersFrom_19 at hf
    refine lv_iload_n hx hb d_Row_enlargeLettersFrom_19 rfl (lv_at hl 2 rfl) ?_
    refine lv_iload_n hx hb d_Row_enlargeLettersFrom_20 rfl (lv_at hl 1 rfl) ?_
    refine lv_icmp_ge (tgt := 71) hx hb d_Row_enlargeLettersFrom_21 (by decide) (fun hc => ?_) (fun hc => ?_)
    · replace hf := mm_ip hc hf
      obtain rfl := Option.some.inj hf
      exact mm_vret hx hb hr hlocks hK (mm_wsub hw [0, 1] (by decide) rfl rfl) d_Row_enlargeLettersFrom_71
    · replace hf := mm_in hc hf
      refine lv_aload_n hx hb d_Row_enlargeLettersFrom_24 rfl (lv_at hl 0 rfl) ?_
      refine va_get (D := (dC, dI)) (ci := 0) (v := .ref h_r_kept) (C := "DirectivePrinter$Row") (T := T_Row) (N := 2) hx hb hts (mm_up i_Row) hown hK hw.1 0 rfl rfl 0 (by decide) (hts _ (List.mem_cons_of_mem _ q_91)) (fun _ h9 => h9) rfl d_Row_enlargeLettersFrom_25 ?_
      refine lv_iload_n hx hb d_Row_enlargeLettersFrom_28 rfl (lv_at hl 2 rfl) ?_
      obtain ⟨hz, hf⟩ := mm_grd hf
      refine va_cald hx hb hK hw.1 1 0 rfl rfl hz d_Row_enlargeLettersFrom_29 ?_
      refine lv_bipush (v := (97 : Int32)) hx hb d_Row_enlargeLettersFrom_30 (by decide) ?_
      refine lv_icmp_lt (tgt := 65) hx hb d_Row_enlargeLettersFrom_32 (by decide) (fun hc => ?_) (fun hc => ?_)
      · replace hf := mm_ip hc hf
        refine lv_iinc (v := x3 + (1 : Int32)) (lv' := [(3, .int (x3 + (1 : Int32))), (0, .ref h_r), (2, .int x2)]) hx hb d_Row_enlargeLettersFrom_65 hl (k := 2) rfl rfl (by decide) rfl (fun ls hl => ?_)
        refine lv_goto (tgt := 19) hx hb d_Row_enlargeLettersFrom_68 (by decide) ?_
        exact ih r_kept x2 (x3 + (1 : Int32)) hf _ _ hw _ (lv_sub hl [1, 2, 0] rfl)
      · replace hf := mm_in hc hf
        refine lv_aload_n hx hb d_Row_enlargeLettersFrom_35 rfl (lv_at hl 0 rfl) ?_
        refine va_get (D := (dC, dI)) (ci := 0) (v := .ref h_r_kept) (C := "DirectivePrinter$Row") (T := T_Row) (N := 2) hx hb hts (mm_up i_Row) hown hK hw.1 0 rfl rfl 0 (by decide) (hts _ (List.mem_cons_of_mem _ q_91)) (fun _ h9 => h9) rfl d_Row_enlargeLettersFrom_36 ?_
        refine lv_iload_n hx hb d_Row_enlargeLettersFrom_39 rfl (lv_at hl 2 rfl) ?_
        obtain ⟨hz, hf⟩ := mm_grd hf
        refine va_cald hx hb hK hw.1 1 0 rfl rfl hz d_Row_enlargeLettersFrom_40 ?_
        refine lv_bipush (v := (122 : Int32)) hx hb d_Row_enlargeLettersFrom_41 (by decide) ?_
        refine lv_icmp_gt (tgt := 65) hx hb d_Row_enlargeLettersFrom_43 (by decide) (fun hc => ?_) (fun hc => ?_)
        · replace hf := mm_ip hc hf
          refine lv_iinc (v := x3 + (1 : Int32)) (lv' := [(3, .int (x3 + (1 : Int32))), (0, .ref h_r), (2, .int x2)]) hx hb d_Row_enlargeLettersFrom_65 hl (k := 2) rfl rfl (by decide) rfl (fun ls hl => ?_)
          refine lv_goto (tgt := 19) hx hb d_Row_enlargeLettersFrom_68 (by decide) ?_
          exact ih r_kept x2 (x3 + (1 : Int32)) hf _ _ hw _ (lv_sub hl [1, 2, 0] rfl)
        · replace hf := mm_in hc hf
          refine lv_aload_n hx hb d_Row_enlargeLettersFrom_46 rfl (lv_at hl 0 rfl) ?_
          refine va_get (D := (dC, dI)) (ci := 0) (v := .ref h_r_kept) (C := "DirectivePrinter$Row") (T := T_Row) (N := 2) hx hb hts (mm_up i_Row) hown hK hw.1 0 rfl rfl 0 (by decide) (hts _ (List.mem_cons_of_mem _ q_91)) (fun _ h9 => h9) rfl d_Row_enlargeLettersFrom_47 ?_
          refine lv_iload_n hx hb d_Row_enlargeLettersFrom_50 rfl (lv_at hl 2 rfl) ?_
          refine lv_aload_n hx hb d_Row_enlargeLettersFrom_51 rfl (lv_at hl 0 rfl) ?_
          refine va_get (D := (dC, dI)) (ci := 0) (v := .ref h_r_kept) (C := "DirectivePrinter$Row") (T := T_Row) (N := 2) hx hb hts (mm_up i_Row) hown hK hw.1 0 rfl rfl 0 (by decide) (hts _ (List.mem_cons_of_mem _ q_91)) (fun _ h9 => h9) rfl d_Row_enlargeLettersFrom_52 ?_
          refine lv_iload_n hx hb d_Row_enlargeLettersFrom_55 rfl (lv_at hl 2 rfl) ?_
          obtain ⟨hz, hf⟩ := mm_grd hf
          refine va_cald hx hb hK hw.1 1 0 rfl rfl hz d_Row_enlargeLettersFrom_56 ?_
          refine lv_bipush (v := (97 : Int32)) hx hb d_Row_enlargeLettersFrom_57 (by decide) ?_
          refine lv_isub hx hb d_Row_enlargeLettersFrom_59 ?_
          refine lv_bipush (v := (65 : Int32)) hx hb d_Row_enlargeLettersFrom_60 (by decide) ?_
          refine lv_iadd hx hb d_Row_enlargeLettersFrom_62 ?_
          refine lv_i2c (v := mm_c (((r_kept x3.toNatClampNeg) - (97 : Int32)) + (65 : Int32))) hx hb d_Row_enlargeLettersFrom_63 rfl ?_
          obtain ⟨hz, hf⟩ := mm_grd hf
          refine va_cast hx hb hK hw.1 hw.2.1 hw.2.2 1 0 rfl rfl hz d_Row_enlargeLettersFrom_64 (fun H locs hP hD hS => ?_)
          have hw : mm_w (dC, dI) vwC A s [(h_r, .inr (0, [.ref h_r_kept, .int r_length])), (h_r_kept, .inl (cC, r_kept_n, .inl (upd r_kept x3.toNatClampNeg (vp_nar .char (mm_c (((r_kept x3.toNatClampNeg) - (97 : Int32)) + (65 : Int32)))))))] H locs := ⟨hP, hD, hS⟩
          refine lv_iinc (v := x3 + (1 : Int32)) (lv' := [(3, .int (x3 + (1 : Int32))), (0, .ref h_r), (2, .int x2)]) hx hb d_Row_enlargeLettersFrom_65 hl (k := 2) rfl rfl (by decide) rfl (fun ls hl => ?_)
          refine lv_goto (tgt := 19) hx hb d_Row_enlargeLettersFrom_68 (by decide) ?_
          exact ih (upd r_kept x3.toNatClampNeg (vp_nar .char (mm_c (((r_kept x3.toNatClampNeg) - (97 : Int32)) + (65 : Int32))))) x2 (x3 + (1 : Int32)) hf _ _ hw _ (lv_sub hl [1, 2, 0] rfl)
set_option maxHeartbeats 4000000 in
set_option maxRecDepth 100000 in
theorem c_Row_enlargeLettersFrom (l : Launch) {Z : (Nat → Prop) → State → Heap → Prop} {ad adK adV : Nat → Nat} (Zo : mm_Zx Z ad adK adV) (dC : Nat → ClassId) (dI : Nat → Nat → Nat) (cC cI cJ cQ : ClassId) (N : Nat) (r_kept_n : Nat) (r_kept : Nat → Int32) (r_length : Int32) (start : Int32) (h_r h_r_kept : Nat) (sz : Nat) (out : (Nat → Int32)) (hf : f_Row_enlargeLettersFrom N r_kept_n r_kept r_length start = some out) : Met l y_Row_enlargeLettersFrom w_Row_enlargeLettersFrom r_Row_enlargeLettersFrom (mm_pre (dC, dI) vwC (tyl cC cI cJ cQ) Z [(h_r, .inr (0, [.ref h_r_kept, .int r_length])), (h_r_kept, .inl (cC, r_kept_n, .inl r_kept))] sz [.ref h_r, .int start]) (mm_qv (dC, dI) vwC (tyl cC cI cJ cQ) (va_A [(h_r, .inr (0, [.ref h_r_kept, .int r_length])), (h_r_kept, .inl (cC, r_kept_n, .inl r_kept))] sz) [(h_r, .inr (0, [.ref h_r_kept, .int r_length])), (h_r_kept, .inl (cC, r_kept_n, .inl out))]) 0 0 (va_A [(h_r, .inr (0, [.ref h_r_kept, .int r_length])), (h_r_kept, .inl (cC, r_kept_n, .inl r_kept))] sz) := by
  refine mm_of (own := "DirectivePrinter$Row") (cc := b_Row_enlargeLettersFrom) (maxL := 4) (ret := none) (by decide) rfl rfl ?_
  intro p e s m below meth c hsz C0 hw hname
  generalize (va_A [(h_r, .inr (0, [.ref h_r_kept, .int r_length])), (h_r_kept, .inl (cC, r_kept_n, .inl r_kept))] sz) = A at C0 hw ⊢
  have hl := lv_entry ([.ref h_r, .int start]) (n := 4) (Nat.le_of_ble_eq_true rfl)
  rw [lg_entry_eq]
  generalize (lg_sl ([.ref h_r, .int start]) ++ List.replicate (4 - (lg_sl ([.ref h_r, .int start])).length) Slot.unset).toArray = ls at hl ⊢
  have hl : lv_has ls 4 [(0, .ref h_r), (1, .int start)] := hl
  obtain ⟨hx, hb, hr, hml, hown, hts, hlocks, hK, hZ, hA⟩ := id C0
  generalize s.heap = H at hw ⊢
  unfold f_Row_enlargeLettersFrom at hf
  refine lv_aload_n hx hb d_Row_enlargeLettersFrom_0 rfl (lv_at hl 0 rfl) ?_
  refine va_get (D := (dC, dI)) (ci := 0) (v := .int r_length) (C := "DirectivePrinter$Row") (T := T_Row) (N := 2) hx hb hts (mm_up i_Row) hown hK hw.1 0 rfl rfl 1 (by decide) (hts _ (List.mem_cons_of_mem _ q_92)) (fun _ h9 => h9) rfl d_Row_enlargeLettersFrom_1 ?_
  refine lv_aload_n hx hb d_Row_enlargeLettersFrom_4 rfl (lv_at hl 0 rfl) ?_
  refine va_get (D := (dC, dI)) (ci := 0) (v := .ref h_r_kept) (C := "DirectivePrinter$Row") (T := T_Row) (N := 2) hx hb hts (mm_up i_Row) hown hK hw.1 0 rfl rfl 0 (by decide) (hts _ (List.mem_cons_of_mem _ q_91)) (fun _ h9 => h9) rfl d_Row_enlargeLettersFrom_5 ?_
  refine va_alen hx hb hK hw.1 1 0 rfl rfl (v := nI r_kept_n) rfl d_Row_enlargeLettersFrom_8 ?_
  refine va_mmin hx hb (hml.trans hl.1.symm) hown (hts _ (List.mem_cons_of_mem _ q_514)) (hts _ (List.mem_cons_of_mem _ q_300)) (hts _ (List.mem_cons_of_mem _ q_56)) (hts _ (List.mem_cons_of_mem _ q_301)) (Nat.le_of_ble_eq_true rfl) (Nat.le_of_ble_eq_true rfl) (Nat.zero_le _) (Nat.zero_le _) d_Row_enlargeLettersFrom_9 ?_
  refine lv_istore_n (lv' := [(2, .int (if (nI r_kept_n) < r_length then (nI r_kept_n) else r_length)), (0, .ref h_r), (1, .int start)]) hx hb d_Row_enlargeLettersFrom_12 rfl hl (by decide) rfl (fun ls hl => ?_)
  refine lv_iload_n hx hb d_Row_enlargeLettersFrom_13 rfl (lv_at hl 2 rfl) ?_
  refine lv_iconst (v := (0 : Int32)) hx hb d_Row_enlargeLettersFrom_14 (by decide) ?_
  refine va_mmax hx hb (hml.trans hl.1.symm) hown (hts _ (List.mem_cons_of_mem _ q_88)) (hts _ (List.mem_cons_of_mem _ q_89)) (hts _ (List.mem_cons_of_mem _ q_56)) (hts _ (List.mem_cons_of_mem _ q_90)) (Nat.le_of_ble_eq_true rfl) (Nat.le_of_ble_eq_true rfl) (Nat.zero_le _) (Nat.zero_le _) d_Row_enlargeLettersFrom_15 ?_
  refine lv_istore_n (lv' := [(3, .int (if start < (0 : Int32) then (0 : Int32) else start)), (2, .int (if (nI r_kept_n) < r_length then (nI r_kept_n) else r_length)), (0, .ref h_r), (1, .int start)]) hx hb d_Row_enlargeLettersFrom_18 rfl hl (by decide) rfl (fun ls hl => ?_)
  exact b_Row_enlargeLettersFrom_19 Zo C0 N r_kept_n r_length start  out N r_kept (if (nI r_kept_n) < r_length then (nI r_kept_n) else r_length) (if start < (0 : Int32) then (0 : Int32) else start) hf _ _ hw _ (lv_sub hl [2, 1, 0] rfl)
end
