
def lw_g : List Cond := lw_tbl.filter goodWord
theorem lw_g_good : ∀ w ∈ lw_g, goodWord w = true := fun w h => (List.mem_filter.mp h).2
theorem lw_g_in : ∀ w ∈ lw_g, w ∈ lw_tbl := fun w h => (List.mem_filter.mp h).1
theorem mm_up {w0 : Cond} {l : List Cond} (h : ∀ w ∈ l, w ∈ lw_g) : ∀ w ∈ l, w ∈ w0 :: lw_g := fun w hw => List.mem_cons_of_mem _ (h w hw)
theorem mm_g1 {w0 w : Cond} (h : w ∈ lw_g) : w ∈ w0 :: lw_g ∧ ((w.onTables && w.keeps) = true ∨ ∃ ty, w = .arrayClass ty) := ⟨List.mem_cons_of_mem _ h, good_of_word (lw_g_good w h)⟩
theorem mm_g0 {w0 w1 : Cond} (h : w1 ∈ lw_g) : GoodIn (w0 :: lw_g) (w1 :: lw_g) := fun w hw => (List.mem_cons.mp hw).elim (fun e => by rw [e]; exact mm_g1 h) (fun h => mm_g1 h)
theorem mm_gV {w0 : Cond} {own C : String} {idx : Nat} {y : MethodName} {b : ByteArray} {n : Nat} {ret : Option FieldType} (h1 : Cond.methodLink own idx y ∈ lw_g) (h2 : Cond.instanceMethod y ∈ lw_g) (h3 : Cond.selects C y y ∈ lw_g) (h4 : Cond.initialized C ∈ lw_g) (h5 : Cond.code y b n ret ∈ lw_g) : GoodIn (w0 :: lw_g) (wsV own idx C y (.code y b n ret :: lw_g)) := by
  intro w hw
  rcases List.mem_append.mp hw with h | h
  · rcases List.mem_cons.mp h with e | h
    · rw [e]; exact mm_g1 h1
    rcases List.mem_cons.mp h with e | h
    · rw [e]; exact mm_g1 h2
    rcases List.mem_cons.mp h with e | h
    · rw [e]; exact mm_g1 h3
    rw [List.mem_singleton.mp h]; exact mm_g1 h4
  · exact mm_g0 h5 w h
theorem mm_gS {w0 : Cond} {own : String} {idx : Nat} {y : MethodName} {b : ByteArray} {n : Nat} {ret : Option FieldType} (h1 : Cond.methodLink own idx y ∈ lw_g) (h2 : Cond.static y ∈ lw_g) (h4 : Cond.initialized y.cls ∈ lw_g) (h5 : Cond.code y b n ret ∈ lw_g) : GoodIn (w0 :: lw_g) (va_wsS own idx y (.code y b n ret :: lw_g)) := by
  intro w hw
  rcases List.mem_append.mp hw with h | h
  · rcases List.mem_cons.mp h with e | h
    · rw [e]; exact mm_g1 h1
    rcases List.mem_cons.mp h with e | h
    · rw [e]; exact mm_g1 h2
    rw [List.mem_singleton.mp h]; exact mm_g1 h4
  · exact mm_g0 h5 w h

def T_Row : u_T := fun k => match k with
  | 0 => ("DirectivePrinter$Row", "kept", "[C", true)
  | _ => ("DirectivePrinter$Row", "length", "I", false)
def t_Row : Nat → FieldType := fun k => match k with
  | 0 => .array .char
  | _ => .int
theorem n_Row : ∀ a, a < 2 → ∀ b, b < 2 → a ≠ b → (T_Row a).2.1 ≠ (T_Row b).2.1 := by decide +kernel
theorem t_Row_ok : ∀ k, k < 2 → parseFieldDescriptor (T_Row k).2.2.1 = some (t_Row k) := by decide +kernel
theorem i_Row : ∀ w ∈ u_ws "DirectivePrinter$Row" T_Row 2, w ∈ lw_g := by decide +kernel
def T_Figures : u_T := fun k => match k with
  | 0 => ("DirectivePrinter$Figures", "digits", "[I", true)
  | 1 => ("DirectivePrinter$Figures", "count", "I", false)
  | _ => ("DirectivePrinter$Figures", "scale", "I", false)
def t_Figures : Nat → FieldType := fun k => match k with
  | 0 => .array .int
  | 1 => .int
  | _ => .int
theorem n_Figures : ∀ a, a < 3 → ∀ b, b < 3 → a ≠ b → (T_Figures a).2.1 ≠ (T_Figures b).2.1 := by decide +kernel
theorem t_Figures_ok : ∀ k, k < 3 → parseFieldDescriptor (T_Figures k).2.2.1 = some (t_Figures k) := by decide +kernel
theorem i_Figures : ∀ w ∈ u_ws "DirectivePrinter$Figures" T_Figures 3, w ∈ lw_g := by decide +kernel
def T_Directive : u_T := fun k => match k with
  | 0 => ("DirectivePrinter$Directive", "index", "I", false)
  | 1 => ("DirectivePrinter$Directive", "flags", "I", false)
  | 2 => ("DirectivePrinter$Directive", "flagTwice", "Z", false)
  | 3 => ("DirectivePrinter$Directive", "width", "I", false)
  | 4 => ("DirectivePrinter$Directive", "precision", "I", false)
  | 5 => ("DirectivePrinter$Directive", "conversion", "I", false)
  | _ => ("DirectivePrinter$Directive", "next", "I", false)
def t_Directive : Nat → FieldType := fun k => match k with
  | 0 => .int
  | 1 => .int
  | 2 => .boolean
  | 3 => .int
  | 4 => .int
  | 5 => .int
  | _ => .int
theorem n_Directive : ∀ a, a < 7 → ∀ b, b < 7 → a ≠ b → (T_Directive a).2.1 ≠ (T_Directive b).2.1 := by decide +kernel
theorem t_Directive_ok : ∀ k, k < 7 → parseFieldDescriptor (T_Directive k).2.2.1 = some (t_Directive k) := by decide +kernel
theorem i_Directive : ∀ w ∈ u_ws "DirectivePrinter$Directive" T_Directive 7, w ∈ lw_g := by decide +kernel
def T_Argument : u_T := fun k => match k with
  | 0 => ("DirectivePrinter$Argument", "kind", "LDirectivePrinter$Kind;", false)
  | 1 => ("DirectivePrinter$Argument", "value", "J", false)
  | 2 => ("DirectivePrinter$Argument", "size", "I", false)
  | _ => ("DirectivePrinter$Argument", "characters", "LDirectivePrinter$Row;", true)
def t_Argument : Nat → FieldType := fun k => match k with
  | 0 => .object "DirectivePrinter$Kind"
  | 1 => .long
  | 2 => .int
  | _ => .object "DirectivePrinter$Row"
theorem n_Argument : ∀ a, a < 4 → ∀ b, b < 4 → a ≠ b → (T_Argument a).2.1 ≠ (T_Argument b).2.1 := by decide +kernel
theorem t_Argument_ok : ∀ k, k < 4 → parseFieldDescriptor (T_Argument k).2.2.1 = some (t_Argument k) := by decide +kernel
theorem i_Argument : ∀ w ∈ u_ws "DirectivePrinter$Argument" T_Argument 4, w ∈ lw_g := by decide +kernel
def T_Composer : u_T := fun k => match k with
  | 0 => ("DirectivePrinter$Composer", "paper", "LDirectivePrinter$Row;", true)
  | 1 => ("DirectivePrinter$Composer", "figures", "LDirectivePrinter$Figures;", true)
  | 2 => ("DirectivePrinter$Composer", "start", "I", false)
  | 3 => ("DirectivePrinter$Composer", "zerosAt", "I", false)
  | 4 => ("DirectivePrinter$Composer", "behind", "I", false)
  | _ => ("DirectivePrinter$Composer", "withExponent", "Z", false)
def t_Composer : Nat → FieldType := fun k => match k with
  | 0 => .object "DirectivePrinter$Row"
  | 1 => .object "DirectivePrinter$Figures"
  | 2 => .int
  | 3 => .int
  | 4 => .int
  | _ => .boolean
theorem n_Composer : ∀ a, a < 6 → ∀ b, b < 6 → a ≠ b → (T_Composer a).2.1 ≠ (T_Composer b).2.1 := by decide +kernel
theorem t_Composer_ok : ∀ k, k < 6 → parseFieldDescriptor (T_Composer k).2.2.1 = some (t_Composer k) := by decide +kernel
theorem i_Composer : ∀ w ∈ u_ws "DirectivePrinter$Composer" T_Composer 6, w ∈ lw_g := by decide +kernel
def T_DP : u_T := fun k => match k with
  | 0 => ("DirectivePrinter", "format", "LDirectivePrinter$Row;", true)
  | 1 => ("DirectivePrinter", "paper", "LDirectivePrinter$Row;", true)
  | 2 => ("DirectivePrinter", "arguments", "[LDirectivePrinter$Argument;", true)
  | 3 => ("DirectivePrinter", "directive", "LDirectivePrinter$Directive;", true)
  | 4 => ("DirectivePrinter", "composer", "LDirectivePrinter$Composer;", true)
  | 5 => ("DirectivePrinter", "argumentCount", "I", false)
  | 6 => ("DirectivePrinter", "lastFault", "I", false)
  | 7 => ("DirectivePrinter", "lastPlace", "I", false)
  | 8 => ("DirectivePrinter", "unnumbered", "I", false)
  | _ => ("DirectivePrinter", "previousArgument", "I", false)
def t_DP : Nat → FieldType := fun k => match k with
  | 0 => .object "DirectivePrinter$Row"
  | 1 => .object "DirectivePrinter$Row"
  | 2 => .array (.object "DirectivePrinter$Argument")
  | 3 => .object "DirectivePrinter$Directive"
  | 4 => .object "DirectivePrinter$Composer"
  | 5 => .int
  | 6 => .int
  | 7 => .int
  | 8 => .int
  | _ => .int
theorem n_DP : ∀ a, a < 10 → ∀ b, b < 10 → a ≠ b → (T_DP a).2.1 ≠ (T_DP b).2.1 := by decide +kernel
theorem t_DP_ok : ∀ k, k < 10 → parseFieldDescriptor (T_DP k).2.2.1 = some (t_DP k) := by decide +kernel
theorem i_DP : ∀ w ∈ u_ws "DirectivePrinter" T_DP 10, w ∈ lw_g := by decide +kernel
def T_Mo : u_T := fun k => match k with
  | 0 => ("DirectivePrinterModel", "thrown", "I", false)
  | 1 => ("DirectivePrinterModel", "format", "[I", true)
  | 2 => ("DirectivePrinterModel", "length", "I", false)
  | 3 => ("DirectivePrinterModel", "arguments", "I", false)
  | 4 => ("DirectivePrinterModel", "kinds", "[I", true)
  | 5 => ("DirectivePrinterModel", "sizes", "[I", true)
  | 6 => ("DirectivePrinterModel", "values", "[J", true)
  | 7 => ("DirectivePrinterModel", "texts", "[I", true)
  | 8 => ("DirectivePrinterModel", "paper", "[I", true)
  | 9 => ("DirectivePrinterModel", "printed", "I", false)
  | 10 => ("DirectivePrinterModel", "draft", "[I", true)
  | 11 => ("DirectivePrinterModel", "drawn", "I", false)
  | 12 => ("DirectivePrinterModel", "fault", "I", false)
  | 13 => ("DirectivePrinterModel", "place", "I", false)
  | 14 => ("DirectivePrinterModel", "at", "I", false)
  | 15 => ("DirectivePrinterModel", "index", "I", false)
  | 16 => ("DirectivePrinterModel", "flags", "I", false)
  | 17 => ("DirectivePrinterModel", "twice", "Z", false)
  | 18 => ("DirectivePrinterModel", "width", "I", false)
  | 19 => ("DirectivePrinterModel", "precision", "I", false)
  | 20 => ("DirectivePrinterModel", "conversion", "I", false)
  | 21 => ("DirectivePrinterModel", "argument", "I", false)
  | 22 => ("DirectivePrinterModel", "next", "I", false)
  | 23 => ("DirectivePrinterModel", "latest", "I", false)
  | 24 => ("DirectivePrinterModel", "piece", "[I", true)
  | 25 => ("DirectivePrinterModel", "size", "I", false)
  | 26 => ("DirectivePrinterModel", "front", "I", false)
  | 27 => ("DirectivePrinterModel", "padded", "Z", false)
  | 28 => ("DirectivePrinterModel", "figures", "[I", true)
  | 29 => ("DirectivePrinterModel", "many", "I", false)
  | _ => ("DirectivePrinterModel", "point", "I", false)
def t_Mo : Nat → FieldType := fun k => match k with
  | 0 => .int
  | 1 => .array .int
  | 2 => .int
  | 3 => .int
  | 4 => .array .int
  | 5 => .array .int
  | 6 => .array .long
  | 7 => .array .int
  | 8 => .array .int
  | 9 => .int
  | 10 => .array .int
  | 11 => .int
  | 12 => .int
  | 13 => .int
  | 14 => .int
  | 15 => .int
  | 16 => .int
  | 17 => .boolean
  | 18 => .int
  | 19 => .int
  | 20 => .int
  | 21 => .int
  | 22 => .int
  | 23 => .int
  | 24 => .array .int
  | 25 => .int
  | 26 => .int
  | 27 => .boolean
  | 28 => .array .int
  | 29 => .int
  | _ => .int
theorem n_Mo : ∀ a, a < 31 → ∀ b, b < 31 → a ≠ b → (T_Mo a).2.1 ≠ (T_Mo b).2.1 := by decide +kernel
theorem t_Mo_ok : ∀ k, k < 31 → parseFieldDescriptor (T_Mo k).2.2.1 = some (t_Mo k) := by decide +kernel
theorem i_Mo : ∀ w ∈ u_ws "DirectivePrinterModel" T_Mo 31, w ∈ lw_g := by decide +kernel
abbrev vwC : List vw_C := [("DirectivePrinter$Row", T_Row, 2), ("DirectivePrinter$Figures", T_Figures, 3), ("DirectivePrinter$Directive", T_Directive, 7), ("DirectivePrinter$Argument", T_Argument, 4), ("DirectivePrinter$Composer", T_Composer, 6), ("DirectivePrinter", T_DP, 10), ("DirectivePrinterModel", T_Mo, 31)]
/-! what stays beside the cells: nest mates' words, the constants of Kind, the texts -/
def zN : List Cond := [.fieldLinkNest "DirectivePrinter$Composer" 77 "DirectivePrinter$Argument" "kind" "LDirectivePrinter$Kind;" "DirectivePrinter", .fieldLinkNest "DirectivePrinter" 142 "DirectivePrinter$Argument" "kind" "LDirectivePrinter$Kind;" "DirectivePrinter", .fieldLinkNest "DirectivePrinter$Composer" 88 "DirectivePrinter$Argument" "value" "J" "DirectivePrinter", .fieldLinkNest "DirectivePrinter" 145 "DirectivePrinter$Argument" "value" "J" "DirectivePrinter", .fieldLinkNest "DirectivePrinter$Composer" 160 "DirectivePrinter$Argument" "size" "I" "DirectivePrinter", .fieldLinkNest "DirectivePrinter" 149 "DirectivePrinter$Argument" "size" "I" "DirectivePrinter", .fieldLinkNest "DirectivePrinter$Composer" 138 "DirectivePrinter$Argument" "characters" "LDirectivePrinter$Row;" "DirectivePrinter", .fieldLinkNest "DirectivePrinter" 114 "DirectivePrinter$Argument" "characters" "LDirectivePrinter$Row;" "DirectivePrinter", .fieldLinkNest "DirectivePrinter" 187 "DirectivePrinter$Directive" "index" "I" "DirectivePrinter", .fieldLinkNest "DirectivePrinter$Composer" 114 "DirectivePrinter$Directive" "width" "I" "DirectivePrinter", .fieldLinkNest "DirectivePrinter$Composer" 108 "DirectivePrinter$Directive" "precision" "I" "DirectivePrinter", .fieldLinkNest "DirectivePrinter" 39 "DirectivePrinter$Composer" "paper" "LDirectivePrinter$Row;" "DirectivePrinter"]
def zOwn : List String := ["DirectivePrinter$Directive", "DirectivePrinter$Directive", "DirectivePrinter$Directive", "DirectivePrinter$Composer", "DirectivePrinter$Composer", "DirectivePrinter$Composer", "DirectivePrinter$Figures", "DirectivePrinter$Composer", "DirectivePrinter$Composer", "DirectivePrinter", "DirectivePrinter", "DirectivePrinter", "DirectivePrinter", "DirectivePrinter"]
def zIdx : List Nat := [85, 58, 65, 61, 63, 86, 34, 156, 158, 61, 92, 97, 104, 121]
def zTx : List String := ["-#+0,(< ", "bBsScCdoxXfeEgG%n", "cCdoxX%", "false", "true", "null", "0123456789abcdef", "0", "0x", "n is not 1 .. 8", "code is not 0 .. 255", "bits is not 8, 16, 32 or 64", "the format has more than 64 characters", "scale is not 0 .. 40"]
def zLen : List Nat := [8, 17, 7, 5, 4, 4, 16, 1, 2, 15, 20, 27, 38, 20]
def zByt : List (List Int32) := [[45, 35, 43, 48, 44, 40, 60, 32], [98, 66, 115, 83, 99, 67, 100, 111, 120, 88, 102, 101, 69, 103, 71, 37, 110], [99, 67, 100, 111, 120, 88, 37], [102, 97, 108, 115, 101], [116, 114, 117, 101], [110, 117, 108, 108], [48, 49, 50, 51, 52, 53, 54, 55, 56, 57, 97, 98, 99, 100, 101, 102], [48], [48, 120], [110, 32, 105, 115, 32, 110, 111, 116, 32, 49, 32, 46, 46, 32, 56], [99, 111, 100, 101, 32, 105, 115, 32, 110, 111, 116, 32, 48, 32, 46, 46, 32, 50, 53, 53], [98, 105, 116, 115, 32, 105, 115, 32, 110, 111, 116, 32, 56, 44, 32, 49, 54, 44, 32, 51, 50, 32, 111, 114, 32, 54, 52], [116, 104, 101, 32, 102, 111, 114, 109, 97, 116, 32, 104, 97, 115, 32, 109, 111, 114, 101, 32, 116, 104, 97, 110, 32, 54, 52, 32, 99, 104, 97, 114, 97, 99, 116, 101, 114, 115], [115, 99, 97, 108, 101, 32, 105, 115, 32, 110, 111, 116, 32, 48, 32, 46, 46, 32, 52, 48]]
abbrev NK : Nat := 14
def kLen (k : Nat) : Nat := zLen.getD k 0
def kByt (k j : Nat) : Int32 := (zByt.getD k []).getD j 0
abbrev tyl (cC cI cJ cQ : ClassId) : List (ClassId × FieldType) := [(cC, .char), (cI, .int), (cJ, .long), (cQ, .object "DirectivePrinter$Argument")]
def zz (ad adK adV : Nat → Nat) (A : Nat → Prop) (U : State) (H : Heap) : Prop :=
  (∀ w ∈ zN, va_Nw w U) ∧ va_En "DirectivePrinter$Kind" "LDirectivePrinter$Kind;" ["NOTHING", "TRUTH", "CHARACTER", "WHOLE", "TEXT", "DECIMAL"] [] ad A U H ∧ vk_S NK zLen zByt adK adV A U H ∧ (∀ i, i < NK → vk_R (zOwn.getD i "") (zIdx.getD i 0) (zTx.getD i "") (adK i) U) ∧ va_Z "java/lang/String" "COMPACT_STRINGS" "Z" (.int 1) A U H ∧ va_Zq "jdk/internal/util/Preconditions" "SIOOBE_FORMATTER" "Ljava/util/function/BiFunction;" A U H
def mm_Zx (Z : (Nat → Prop) → State → Heap → Prop) (ad adK adV : Nat → Nat) : Prop := mm_Zok Z ∧ ∀ (A : Nat → Prop) (U : State) (H : Heap), Z A U H → zz ad adK adV A U H
section MMenum
variable {p : Program} {l : Launch} {e : Env} {R : Room} {s : State} {m : MethodId} {args : Array Value} {below : List Frame} {meth : Method} {c : Code} {H : Heap} {locs : List Loc} {cells slots : Nat} {Q : State → Prop} {cc : ByteArray} {pc : Nat} {ls : Array Slot} {rest : List Value}
theorem mm_acmp_eq {ad : Nat → Nat} {x y n : Nat} (hj : ∀ i j, i < n → j < n → ad i = ad j → i = j) (h1 : x < n) (h2 : y < n) {off : Int} {tgt : Nat} (hx : p.tables.exec = Jvm.exec) (hb : c.code = cc) (hdg : decode cc pc = .ok (.if_acmp .eq off, 3)) (ht : (pc : Int) + off = (tgt : Int))
    (kt : x = y → W p l e R s m args below meth c H locs cells slots Q (F0 m tgt ls rest)) (kf : ¬ x = y → W p l e R s m args below meth c H locs cells slots Q (F0 m (pc + 3) ls rest)) : W p l e R s m args below meth c H locs cells slots Q (F0 m pc ls (.ref (ad y) :: .ref (ad x) :: rest)) :=
  lv_acmp_eq (rx := some (ad x)) (ry := some (ad y)) hx hb hdg ht (fun h => kt (hj _ _ h1 h2 (Option.some.inj h))) (fun h => kf (fun e => h (by rw [e])))
theorem mm_acmp_ne {ad : Nat → Nat} {x y n : Nat} (hj : ∀ i j, i < n → j < n → ad i = ad j → i = j) (h1 : x < n) (h2 : y < n) {off : Int} {tgt : Nat} (hx : p.tables.exec = Jvm.exec) (hb : c.code = cc) (hdg : decode cc pc = .ok (.if_acmp .ne off, 3)) (ht : (pc : Int) + off = (tgt : Int))
    (kt : ¬ x = y → W p l e R s m args below meth c H locs cells slots Q (F0 m tgt ls rest)) (kf : x = y → W p l e R s m args below meth c H locs cells slots Q (F0 m (pc + 3) ls rest)) : W p l e R s m args below meth c H locs cells slots Q (F0 m pc ls (.ref (ad y) :: .ref (ad x) :: rest)) :=
  lv_acmp_ne (rx := some (ad x)) (ry := some (ad y)) hx hb hdg ht (fun h => kt (fun e => h (by rw [e]))) (fun h => kf (hj _ _ h1 h2 (Option.some.inj h)))
end MMenum

