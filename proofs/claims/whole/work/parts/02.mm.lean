/-! ONE FORM OF CONTRACT. A method's pure function says what it does ('some'); its contract says that the machine does just that. -/
section MMpure
def mm_c (x : Int32) : Int32 := (x.toUInt32 % 65536).toInt32
def mm_iu (x y : Int32) : Int32 := (x.toUInt32 >>> (y.toUInt32 &&& Int32.toUInt32 31)).toInt32
def mm_lu (x : Int64) (y : Int32) : Int64 := (x.toUInt64 >>> (y.toInt64.toUInt64 &&& Int64.toUInt64 63)).toInt64
def mm_ll (x : Int64) (y : Int32) : Int64 := x <<< (y.toInt64 &&& 63)
def mm_lr (x : Int64) (y : Int32) : Int64 := x >>> (y.toInt64 &&& 63)
theorem mm_ip {α : Type} {c : Prop} [Decidable c] {a b o : Option α} (h : c) (hf : (if c then a else b) = o) : a = o := by rw [if_pos h] at hf; exact hf
theorem mm_in {α : Type} {c : Prop} [Decidable c] {a b o : Option α} (h : ¬ c) (hf : (if c then a else b) = o) : b = o := by rw [if_neg h] at hf; exact hf
theorem mm_grd {α : Type} {c : Prop} [Decidable c] {b : Option α} {x : α} (hf : (if c then none else b) = some x) : ¬ c ∧ b = some x := by
  by_cases h : c
  · rw [if_pos h] at hf; cases hf
  · rw [if_neg h] at hf; exact ⟨h, hf⟩
theorem mm_ask {α : Type} {c : Prop} [Decidable c] {b : Option α} {x : α} (hf : (if c then b else none) = some x) : c ∧ b = some x := by
  by_cases h : c
  · rw [if_pos h] at hf; exact ⟨h, hf⟩
  · rw [if_neg h] at hf; cases hf
def mm_b0 {δ : Type} (o : Option Unit) (k : Option δ) : Option δ := match o with
  | none => none
  | some _ => k
def mm_b1 {a δ : Type} (o : Option a) (k : a → Option δ) : Option δ := match o with
  | none => none
  | some x => k x
def mm_b2 {a b δ : Type} (o : Option (a × b)) (k : a → b → Option δ) : Option δ := match o with
  | none => none
  | some x => k x.1 x.2
def mm_b3 {a b c δ : Type} (o : Option (a × b × c)) (k : a → b → c → Option δ) : Option δ := match o with
  | none => none
  | some x => k x.1 x.2.1 x.2.2
def mm_b4 {a b c d δ : Type} (o : Option (a × b × c × d)) (k : a → b → c → d → Option δ) : Option δ := match o with
  | none => none
  | some x => k x.1 x.2.1 x.2.2.1 x.2.2.2
def mm_b5 {a b c d e δ : Type} (o : Option (a × b × c × d × e)) (k : a → b → c → d → e → Option δ) : Option δ := match o with
  | none => none
  | some x => k x.1 x.2.1 x.2.2.1 x.2.2.2.1 x.2.2.2.2
def mm_b6 {a b c d e f δ : Type} (o : Option (a × b × c × d × e × f)) (k : a → b → c → d → e → f → Option δ) : Option δ := match o with
  | none => none
  | some x => k x.1 x.2.1 x.2.2.1 x.2.2.2.1 x.2.2.2.2.1 x.2.2.2.2.2
def mm_b7 {a b c d e f g δ : Type} (o : Option (a × b × c × d × e × f × g)) (k : a → b → c → d → e → f → g → Option δ) : Option δ := match o with
  | none => none
  | some x => k x.1 x.2.1 x.2.2.1 x.2.2.2.1 x.2.2.2.2.1 x.2.2.2.2.2.1 x.2.2.2.2.2.2
def mm_b8 {a b c d e f g h δ : Type} (o : Option (a × b × c × d × e × f × g × h)) (k : a → b → c → d → e → f → g → h → Option δ) : Option δ := match o with
  | none => none
  | some x => k x.1 x.2.1 x.2.2.1 x.2.2.2.1 x.2.2.2.2.1 x.2.2.2.2.2.1 x.2.2.2.2.2.2.1 x.2.2.2.2.2.2.2
def mm_b9 {a b c d e f g h i δ : Type} (o : Option (a × b × c × d × e × f × g × h × i)) (k : a → b → c → d → e → f → g → h → i → Option δ) : Option δ := match o with
  | none => none
  | some x => k x.1 x.2.1 x.2.2.1 x.2.2.2.1 x.2.2.2.2.1 x.2.2.2.2.2.1 x.2.2.2.2.2.2.1 x.2.2.2.2.2.2.2.1 x.2.2.2.2.2.2.2.2
theorem mm_b0_ok {δ : Type} {o : Option Unit} {k : Option δ} {z : δ} (h : mm_b0 o k = some z) : o = some () ∧ k = some z := by
  cases o with
  | none => cases h
  | some x => exact ⟨rfl, h⟩
theorem mm_b1_ok {a δ : Type} {o : Option a} {k : a → Option δ} {z : δ} (h : mm_b1 o k = some z) : ∃ x1, o = some x1 ∧ k x1 = some z := by
  cases o with
  | none => cases h
  | some x => exact ⟨_, rfl, h⟩
theorem mm_b2_ok {a b δ : Type} {o : Option (a × b)} {k : a → b → Option δ} {z : δ} (h : mm_b2 o k = some z) : ∃ x1 x2, o = some (x1, x2) ∧ k x1 x2 = some z := by
  cases o with
  | none => cases h
  | some x => exact ⟨_, _, rfl, h⟩
theorem mm_b3_ok {a b c δ : Type} {o : Option (a × b × c)} {k : a → b → c → Option δ} {z : δ} (h : mm_b3 o k = some z) : ∃ x1 x2 x3, o = some (x1, x2, x3) ∧ k x1 x2 x3 = some z := by
  cases o with
  | none => cases h
  | some x => exact ⟨_, _, _, rfl, h⟩
theorem mm_b4_ok {a b c d δ : Type} {o : Option (a × b × c × d)} {k : a → b → c → d → Option δ} {z : δ} (h : mm_b4 o k = some z) : ∃ x1 x2 x3 x4, o = some (x1, x2, x3, x4) ∧ k x1 x2 x3 x4 = some z := by
  cases o with
  | none => cases h
  | some x => exact ⟨_, _, _, _, rfl, h⟩
theorem mm_b5_ok {a b c d e δ : Type} {o : Option (a × b × c × d × e)} {k : a → b → c → d → e → Option δ} {z : δ} (h : mm_b5 o k = some z) : ∃ x1 x2 x3 x4 x5, o = some (x1, x2, x3, x4, x5) ∧ k x1 x2 x3 x4 x5 = some z := by
  cases o with
  | none => cases h
  | some x => exact ⟨_, _, _, _, _, rfl, h⟩
theorem mm_b6_ok {a b c d e f δ : Type} {o : Option (a × b × c × d × e × f)} {k : a → b → c → d → e → f → Option δ} {z : δ} (h : mm_b6 o k = some z) : ∃ x1 x2 x3 x4 x5 x6, o = some (x1, x2, x3, x4, x5, x6) ∧ k x1 x2 x3 x4 x5 x6 = some z := by
  cases o with
  | none => cases h
  | some x => exact ⟨_, _, _, _, _, _, rfl, h⟩
theorem mm_b7_ok {a b c d e f g δ : Type} {o : Option (a × b × c × d × e × f × g)} {k : a → b → c → d → e → f → g → Option δ} {z : δ} (h : mm_b7 o k = some z) : ∃ x1 x2 x3 x4 x5 x6 x7, o = some (x1, x2, x3, x4, x5, x6, x7) ∧ k x1 x2 x3 x4 x5 x6 x7 = some z := by
  cases o with
  | none => cases h
  | some x => exact ⟨_, _, _, _, _, _, _, rfl, h⟩
theorem mm_b8_ok {a b c d e f g i δ : Type} {o : Option (a × b × c × d × e × f × g × i)} {k : a → b → c → d → e → f → g → i → Option δ} {z : δ} (h : mm_b8 o k = some z) : ∃ x1 x2 x3 x4 x5 x6 x7 x8, o = some (x1, x2, x3, x4, x5, x6, x7, x8) ∧ k x1 x2 x3 x4 x5 x6 x7 x8 = some z := by
  cases o with
  | none => cases h
  | some x => exact ⟨_, _, _, _, _, _, _, _, rfl, h⟩
theorem mm_b9_ok {a b c d e f g i j δ : Type} {o : Option (a × b × c × d × e × f × g × i × j)} {k : a → b → c → d → e → f → g → i → j → Option δ} {z : δ} (h : mm_b9 o k = some z) : ∃ x1 x2 x3 x4 x5 x6 x7 x8 x9, o = some (x1, x2, x3, x4, x5, x6, x7, x8, x9) ∧ k x1 x2 x3 x4 x5 x6 x7 x8 x9 = some z := by
  cases o with
  | none => cases h
  | some x => exact ⟨_, _, _, _, _, _, _, _, _, rfl, h⟩
def mm_b10 {a1 a2 a3 a4 a5 a6 a7 a8 a9 a10 δ : Type} (o : Option (a1 × a2 × a3 × a4 × a5 × a6 × a7 × a8 × a9 × a10)) (k : a1 → a2 → a3 → a4 → a5 → a6 → a7 → a8 → a9 → a10 → Option δ) : Option δ := match o with
  | none => none
  | some x => k x.1 x.2.1 x.2.2.1 x.2.2.2.1 x.2.2.2.2.1 x.2.2.2.2.2.1 x.2.2.2.2.2.2.1 x.2.2.2.2.2.2.2.1 x.2.2.2.2.2.2.2.2.1 x.2.2.2.2.2.2.2.2.2
theorem mm_b10_ok {a1 a2 a3 a4 a5 a6 a7 a8 a9 a10 δ : Type} {o : Option (a1 × a2 × a3 × a4 × a5 × a6 × a7 × a8 × a9 × a10)} {k : a1 → a2 → a3 → a4 → a5 → a6 → a7 → a8 → a9 → a10 → Option δ} {z : δ} (h : mm_b10 o k = some z) : ∃ x1 x2 x3 x4 x5 x6 x7 x8 x9 x10, o = some (x1, x2, x3, x4, x5, x6, x7, x8, x9, x10) ∧ k x1 x2 x3 x4 x5 x6 x7 x8 x9 x10 = some z := by
  cases o with
  | none => cases h
  | some x => exact ⟨_, _, _, _, _, _, _, _, _, _, rfl, h⟩
def mm_b11 {a1 a2 a3 a4 a5 a6 a7 a8 a9 a10 a11 δ : Type} (o : Option (a1 × a2 × a3 × a4 × a5 × a6 × a7 × a8 × a9 × a10 × a11)) (k : a1 → a2 → a3 → a4 → a5 → a6 → a7 → a8 → a9 → a10 → a11 → Option δ) : Option δ := match o with
  | none => none
  | some x => k x.1 x.2.1 x.2.2.1 x.2.2.2.1 x.2.2.2.2.1 x.2.2.2.2.2.1 x.2.2.2.2.2.2.1 x.2.2.2.2.2.2.2.1 x.2.2.2.2.2.2.2.2.1 x.2.2.2.2.2.2.2.2.2.1 x.2.2.2.2.2.2.2.2.2.2
theorem mm_b11_ok {a1 a2 a3 a4 a5 a6 a7 a8 a9 a10 a11 δ : Type} {o : Option (a1 × a2 × a3 × a4 × a5 × a6 × a7 × a8 × a9 × a10 × a11)} {k : a1 → a2 → a3 → a4 → a5 → a6 → a7 → a8 → a9 → a10 → a11 → Option δ} {z : δ} (h : mm_b11 o k = some z) : ∃ x1 x2 x3 x4 x5 x6 x7 x8 x9 x10 x11, o = some (x1, x2, x3, x4, x5, x6, x7, x8, x9, x10, x11) ∧ k x1 x2 x3 x4 x5 x6 x7 x8 x9 x10 x11 = some z := by
  cases o with
  | none => cases h
  | some x => exact ⟨_, _, _, _, _, _, _, _, _, _, _, rfl, h⟩
def mm_b12 {a1 a2 a3 a4 a5 a6 a7 a8 a9 a10 a11 a12 δ : Type} (o : Option (a1 × a2 × a3 × a4 × a5 × a6 × a7 × a8 × a9 × a10 × a11 × a12)) (k : a1 → a2 → a3 → a4 → a5 → a6 → a7 → a8 → a9 → a10 → a11 → a12 → Option δ) : Option δ := match o with
  | none => none
  | some x => k x.1 x.2.1 x.2.2.1 x.2.2.2.1 x.2.2.2.2.1 x.2.2.2.2.2.1 x.2.2.2.2.2.2.1 x.2.2.2.2.2.2.2.1 x.2.2.2.2.2.2.2.2.1 x.2.2.2.2.2.2.2.2.2.1 x.2.2.2.2.2.2.2.2.2.2.1 x.2.2.2.2.2.2.2.2.2.2.2
theorem mm_b12_ok {a1 a2 a3 a4 a5 a6 a7 a8 a9 a10 a11 a12 δ : Type} {o : Option (a1 × a2 × a3 × a4 × a5 × a6 × a7 × a8 × a9 × a10 × a11 × a12)} {k : a1 → a2 → a3 → a4 → a5 → a6 → a7 → a8 → a9 → a10 → a11 → a12 → Option δ} {z : δ} (h : mm_b12 o k = some z) : ∃ x1 x2 x3 x4 x5 x6 x7 x8 x9 x10 x11 x12, o = some (x1, x2, x3, x4, x5, x6, x7, x8, x9, x10, x11, x12) ∧ k x1 x2 x3 x4 x5 x6 x7 x8 x9 x10 x11 x12 = some z := by
  cases o with
  | none => cases h
  | some x => exact ⟨_, _, _, _, _, _, _, _, _, _, _, _, rfl, h⟩
def mm_b13 {a1 a2 a3 a4 a5 a6 a7 a8 a9 a10 a11 a12 a13 δ : Type} (o : Option (a1 × a2 × a3 × a4 × a5 × a6 × a7 × a8 × a9 × a10 × a11 × a12 × a13)) (k : a1 → a2 → a3 → a4 → a5 → a6 → a7 → a8 → a9 → a10 → a11 → a12 → a13 → Option δ) : Option δ := match o with
  | none => none
  | some x => k x.1 x.2.1 x.2.2.1 x.2.2.2.1 x.2.2.2.2.1 x.2.2.2.2.2.1 x.2.2.2.2.2.2.1 x.2.2.2.2.2.2.2.1 x.2.2.2.2.2.2.2.2.1 x.2.2.2.2.2.2.2.2.2.1 x.2.2.2.2.2.2.2.2.2.2.1 x.2.2.2.2.2.2.2.2.2.2.2.1 x.2.2.2.2.2.2.2.2.2.2.2.2
theorem mm_b13_ok {a1 a2 a3 a4 a5 a6 a7 a8 a9 a10 a11 a12 a13 δ : Type} {o : Option (a1 × a2 × a3 × a4 × a5 × a6 × a7 × a8 × a9 × a10 × a11 × a12 × a13)} {k : a1 → a2 → a3 → a4 → a5 → a6 → a7 → a8 → a9 → a10 → a11 → a12 → a13 → Option δ} {z : δ} (h : mm_b13 o k = some z) : ∃ x1 x2 x3 x4 x5 x6 x7 x8 x9 x10 x11 x12 x13, o = some (x1, x2, x3, x4, x5, x6, x7, x8, x9, x10, x11, x12, x13) ∧ k x1 x2 x3 x4 x5 x6 x7 x8 x9 x10 x11 x12 x13 = some z := by
  cases o with
  | none => cases h
  | some x => exact ⟨_, _, _, _, _, _, _, _, _, _, _, _, _, rfl, h⟩
def mm_b14 {a1 a2 a3 a4 a5 a6 a7 a8 a9 a10 a11 a12 a13 a14 δ : Type} (o : Option (a1 × a2 × a3 × a4 × a5 × a6 × a7 × a8 × a9 × a10 × a11 × a12 × a13 × a14)) (k : a1 → a2 → a3 → a4 → a5 → a6 → a7 → a8 → a9 → a10 → a11 → a12 → a13 → a14 → Option δ) : Option δ := match o with
  | none => none
  | some x => k x.1 x.2.1 x.2.2.1 x.2.2.2.1 x.2.2.2.2.1 x.2.2.2.2.2.1 x.2.2.2.2.2.2.1 x.2.2.2.2.2.2.2.1 x.2.2.2.2.2.2.2.2.1 x.2.2.2.2.2.2.2.2.2.1 x.2.2.2.2.2.2.2.2.2.2.1 x.2.2.2.2.2.2.2.2.2.2.2.1 x.2.2.2.2.2.2.2.2.2.2.2.2.1 x.2.2.2.2.2.2.2.2.2.2.2.2.2
theorem mm_b14_ok {a1 a2 a3 a4 a5 a6 a7 a8 a9 a10 a11 a12 a13 a14 δ : Type} {o : Option (a1 × a2 × a3 × a4 × a5 × a6 × a7 × a8 × a9 × a10 × a11 × a12 × a13 × a14)} {k : a1 → a2 → a3 → a4 → a5 → a6 → a7 → a8 → a9 → a10 → a11 → a12 → a13 → a14 → Option δ} {z : δ} (h : mm_b14 o k = some z) : ∃ x1 x2 x3 x4 x5 x6 x7 x8 x9 x10 x11 x12 x13 x14, o = some (x1, x2, x3, x4, x5, x6, x7, x8, x9, x10, x11, x12, x13, x14) ∧ k x1 x2 x3 x4 x5 x6 x7 x8 x9 x10 x11 x12 x13 x14 = some z := by
  cases o with
  | none => cases h
  | some x => exact ⟨_, _, _, _, _, _, _, _, _, _, _, _, _, _, rfl, h⟩
def mm_b15 {a1 a2 a3 a4 a5 a6 a7 a8 a9 a10 a11 a12 a13 a14 a15 δ : Type} (o : Option (a1 × a2 × a3 × a4 × a5 × a6 × a7 × a8 × a9 × a10 × a11 × a12 × a13 × a14 × a15)) (k : a1 → a2 → a3 → a4 → a5 → a6 → a7 → a8 → a9 → a10 → a11 → a12 → a13 → a14 → a15 → Option δ) : Option δ := match o with
  | none => none
  | some x => k x.1 x.2.1 x.2.2.1 x.2.2.2.1 x.2.2.2.2.1 x.2.2.2.2.2.1 x.2.2.2.2.2.2.1 x.2.2.2.2.2.2.2.1 x.2.2.2.2.2.2.2.2.1 x.2.2.2.2.2.2.2.2.2.1 x.2.2.2.2.2.2.2.2.2.2.1 x.2.2.2.2.2.2.2.2.2.2.2.1 x.2.2.2.2.2.2.2.2.2.2.2.2.1 x.2.2.2.2.2.2.2.2.2.2.2.2.2.1 x.2.2.2.2.2.2.2.2.2.2.2.2.2.2
theorem mm_b15_ok {a1 a2 a3 a4 a5 a6 a7 a8 a9 a10 a11 a12 a13 a14 a15 δ : Type} {o : Option (a1 × a2 × a3 × a4 × a5 × a6 × a7 × a8 × a9 × a10 × a11 × a12 × a13 × a14 × a15)} {k : a1 → a2 → a3 → a4 → a5 → a6 → a7 → a8 → a9 → a10 → a11 → a12 → a13 → a14 → a15 → Option δ} {z : δ} (h : mm_b15 o k = some z) : ∃ x1 x2 x3 x4 x5 x6 x7 x8 x9 x10 x11 x12 x13 x14 x15, o = some (x1, x2, x3, x4, x5, x6, x7, x8, x9, x10, x11, x12, x13, x14, x15) ∧ k x1 x2 x3 x4 x5 x6 x7 x8 x9 x10 x11 x12 x13 x14 x15 = some z := by
  cases o with
  | none => cases h
  | some x => exact ⟨_, _, _, _, _, _, _, _, _, _, _, _, _, _, _, rfl, h⟩
def mm_b16 {a1 a2 a3 a4 a5 a6 a7 a8 a9 a10 a11 a12 a13 a14 a15 a16 δ : Type} (o : Option (a1 × a2 × a3 × a4 × a5 × a6 × a7 × a8 × a9 × a10 × a11 × a12 × a13 × a14 × a15 × a16)) (k : a1 → a2 → a3 → a4 → a5 → a6 → a7 → a8 → a9 → a10 → a11 → a12 → a13 → a14 → a15 → a16 → Option δ) : Option δ := match o with
  | none => none
  | some x => k x.1 x.2.1 x.2.2.1 x.2.2.2.1 x.2.2.2.2.1 x.2.2.2.2.2.1 x.2.2.2.2.2.2.1 x.2.2.2.2.2.2.2.1 x.2.2.2.2.2.2.2.2.1 x.2.2.2.2.2.2.2.2.2.1 x.2.2.2.2.2.2.2.2.2.2.1 x.2.2.2.2.2.2.2.2.2.2.2.1 x.2.2.2.2.2.2.2.2.2.2.2.2.1 x.2.2.2.2.2.2.2.2.2.2.2.2.2.1 x.2.2.2.2.2.2.2.2.2.2.2.2.2.2.1 x.2.2.2.2.2.2.2.2.2.2.2.2.2.2.2
theorem mm_b16_ok {a1 a2 a3 a4 a5 a6 a7 a8 a9 a10 a11 a12 a13 a14 a15 a16 δ : Type} {o : Option (a1 × a2 × a3 × a4 × a5 × a6 × a7 × a8 × a9 × a10 × a11 × a12 × a13 × a14 × a15 × a16)} {k : a1 → a2 → a3 → a4 → a5 → a6 → a7 → a8 → a9 → a10 → a11 → a12 → a13 → a14 → a15 → a16 → Option δ} {z : δ} (h : mm_b16 o k = some z) : ∃ x1 x2 x3 x4 x5 x6 x7 x8 x9 x10 x11 x12 x13 x14 x15 x16, o = some (x1, x2, x3, x4, x5, x6, x7, x8, x9, x10, x11, x12, x13, x14, x15, x16) ∧ k x1 x2 x3 x4 x5 x6 x7 x8 x9 x10 x11 x12 x13 x14 x15 x16 = some z := by
  cases o with
  | none => cases h
  | some x => exact ⟨_, _, _, _, _, _, _, _, _, _, _, _, _, _, _, _, rfl, h⟩
def mm_b17 {a1 a2 a3 a4 a5 a6 a7 a8 a9 a10 a11 a12 a13 a14 a15 a16 a17 δ : Type} (o : Option (a1 × a2 × a3 × a4 × a5 × a6 × a7 × a8 × a9 × a10 × a11 × a12 × a13 × a14 × a15 × a16 × a17)) (k : a1 → a2 → a3 → a4 → a5 → a6 → a7 → a8 → a9 → a10 → a11 → a12 → a13 → a14 → a15 → a16 → a17 → Option δ) : Option δ := match o with
  | none => none
  | some x => k x.1 x.2.1 x.2.2.1 x.2.2.2.1 x.2.2.2.2.1 x.2.2.2.2.2.1 x.2.2.2.2.2.2.1 x.2.2.2.2.2.2.2.1 x.2.2.2.2.2.2.2.2.1 x.2.2.2.2.2.2.2.2.2.1 x.2.2.2.2.2.2.2.2.2.2.1 x.2.2.2.2.2.2.2.2.2.2.2.1 x.2.2.2.2.2.2.2.2.2.2.2.2.1 x.2.2.2.2.2.2.2.2.2.2.2.2.2.1 x.2.2.2.2.2.2.2.2.2.2.2.2.2.2.1 x.2.2.2.2.2.2.2.2.2.2.2.2.2.2.2.1 x.2.2.2.2.2.2.2.2.2.2.2.2.2.2.2.2
theorem mm_b17_ok {a1 a2 a3 a4 a5 a6 a7 a8 a9 a10 a11 a12 a13 a14 a15 a16 a17 δ : Type} {o : Option (a1 × a2 × a3 × a4 × a5 × a6 × a7 × a8 × a9 × a10 × a11 × a12 × a13 × a14 × a15 × a16 × a17)} {k : a1 → a2 → a3 → a4 → a5 → a6 → a7 → a8 → a9 → a10 → a11 → a12 → a13 → a14 → a15 → a16 → a17 → Option δ} {z : δ} (h : mm_b17 o k = some z) : ∃ x1 x2 x3 x4 x5 x6 x7 x8 x9 x10 x11 x12 x13 x14 x15 x16 x17, o = some (x1, x2, x3, x4, x5, x6, x7, x8, x9, x10, x11, x12, x13, x14, x15, x16, x17) ∧ k x1 x2 x3 x4 x5 x6 x7 x8 x9 x10 x11 x12 x13 x14 x15 x16 x17 = some z := by
  cases o with
  | none => cases h
  | some x => exact ⟨_, _, _, _, _, _, _, _, _, _, _, _, _, _, _, _, _, rfl, h⟩
def mm_b18 {a1 a2 a3 a4 a5 a6 a7 a8 a9 a10 a11 a12 a13 a14 a15 a16 a17 a18 δ : Type} (o : Option (a1 × a2 × a3 × a4 × a5 × a6 × a7 × a8 × a9 × a10 × a11 × a12 × a13 × a14 × a15 × a16 × a17 × a18)) (k : a1 → a2 → a3 → a4 → a5 → a6 → a7 → a8 → a9 → a10 → a11 → a12 → a13 → a14 → a15 → a16 → a17 → a18 → Option δ) : Option δ := match o with
  | none => none
  | some x => k x.1 x.2.1 x.2.2.1 x.2.2.2.1 x.2.2.2.2.1 x.2.2.2.2.2.1 x.2.2.2.2.2.2.1 x.2.2.2.2.2.2.2.1 x.2.2.2.2.2.2.2.2.1 x.2.2.2.2.2.2.2.2.2.1 x.2.2.2.2.2.2.2.2.2.2.1 x.2.2.2.2.2.2.2.2.2.2.2.1 x.2.2.2.2.2.2.2.2.2.2.2.2.1 x.2.2.2.2.2.2.2.2.2.2.2.2.2.1 x.2.2.2.2.2.2.2.2.2.2.2.2.2.2.1 x.2.2.2.2.2.2.2.2.2.2.2.2.2.2.2.1 x.2.2.2.2.2.2.2.2.2.2.2.2.2.2.2.2.1 x.2.2.2.2.2.2.2.2.2.2.2.2.2.2.2.2.2
theorem mm_b18_ok {a1 a2 a3 a4 a5 a6 a7 a8 a9 a10 a11 a12 a13 a14 a15 a16 a17 a18 δ : Type} {o : Option (a1 × a2 × a3 × a4 × a5 × a6 × a7 × a8 × a9 × a10 × a11 × a12 × a13 × a14 × a15 × a16 × a17 × a18)} {k : a1 → a2 → a3 → a4 → a5 → a6 → a7 → a8 → a9 → a10 → a11 → a12 → a13 → a14 → a15 → a16 → a17 → a18 → Option δ} {z : δ} (h : mm_b18 o k = some z) : ∃ x1 x2 x3 x4 x5 x6 x7 x8 x9 x10 x11 x12 x13 x14 x15 x16 x17 x18, o = some (x1, x2, x3, x4, x5, x6, x7, x8, x9, x10, x11, x12, x13, x14, x15, x16, x17, x18) ∧ k x1 x2 x3 x4 x5 x6 x7 x8 x9 x10 x11 x12 x13 x14 x15 x16 x17 x18 = some z := by
  cases o with
  | none => cases h
  | some x => exact ⟨_, _, _, _, _, _, _, _, _, _, _, _, _, _, _, _, _, _, rfl, h⟩
def mm_b19 {a1 a2 a3 a4 a5 a6 a7 a8 a9 a10 a11 a12 a13 a14 a15 a16 a17 a18 a19 δ : Type} (o : Option (a1 × a2 × a3 × a4 × a5 × a6 × a7 × a8 × a9 × a10 × a11 × a12 × a13 × a14 × a15 × a16 × a17 × a18 × a19)) (k : a1 → a2 → a3 → a4 → a5 → a6 → a7 → a8 → a9 → a10 → a11 → a12 → a13 → a14 → a15 → a16 → a17 → a18 → a19 → Option δ) : Option δ := match o with
  | none => none
  | some x => k x.1 x.2.1 x.2.2.1 x.2.2.2.1 x.2.2.2.2.1 x.2.2.2.2.2.1 x.2.2.2.2.2.2.1 x.2.2.2.2.2.2.2.1 x.2.2.2.2.2.2.2.2.1 x.2.2.2.2.2.2.2.2.2.1 x.2.2.2.2.2.2.2.2.2.2.1 x.2.2.2.2.2.2.2.2.2.2.2.1 x.2.2.2.2.2.2.2.2.2.2.2.2.1 x.2.2.2.2.2.2.2.2.2.2.2.2.2.1 x.2.2.2.2.2.2.2.2.2.2.2.2.2.2.1 x.2.2.2.2.2.2.2.2.2.2.2.2.2.2.2.1 x.2.2.2.2.2.2.2.2.2.2.2.2.2.2.2.2.1 x.2.2.2.2.2.2.2.2.2.2.2.2.2.2.2.2.2.1 x.2.2.2.2.2.2.2.2.2.2.2.2.2.2.2.2.2.2
theorem mm_b19_ok {a1 a2 a3 a4 a5 a6 a7 a8 a9 a10 a11 a12 a13 a14 a15 a16 a17 a18 a19 δ : Type} {o : Option (a1 × a2 × a3 × a4 × a5 × a6 × a7 × a8 × a9 × a10 × a11 × a12 × a13 × a14 × a15 × a16 × a17 × a18 × a19)} {k : a1 → a2 → a3 → a4 → a5 → a6 → a7 → a8 → a9 → a10 → a11 → a12 → a13 → a14 → a15 → a16 → a17 → a18 → a19 → Option δ} {z : δ} (h : mm_b19 o k = some z) : ∃ x1 x2 x3 x4 x5 x6 x7 x8 x9 x10 x11 x12 x13 x14 x15 x16 x17 x18 x19, o = some (x1, x2, x3, x4, x5, x6, x7, x8, x9, x10, x11, x12, x13, x14, x15, x16, x17, x18, x19) ∧ k x1 x2 x3 x4 x5 x6 x7 x8 x9 x10 x11 x12 x13 x14 x15 x16 x17 x18 x19 = some z := by
  cases o with
  | none => cases h
  | some x => exact ⟨_, _, _, _, _, _, _, _, _, _, _, _, _, _, _, _, _, _, _, rfl, h⟩
def mm_b20 {a1 a2 a3 a4 a5 a6 a7 a8 a9 a10 a11 a12 a13 a14 a15 a16 a17 a18 a19 a20 δ : Type} (o : Option (a1 × a2 × a3 × a4 × a5 × a6 × a7 × a8 × a9 × a10 × a11 × a12 × a13 × a14 × a15 × a16 × a17 × a18 × a19 × a20)) (k : a1 → a2 → a3 → a4 → a5 → a6 → a7 → a8 → a9 → a10 → a11 → a12 → a13 → a14 → a15 → a16 → a17 → a18 → a19 → a20 → Option δ) : Option δ := match o with
  | none => none
  | some x => k x.1 x.2.1 x.2.2.1 x.2.2.2.1 x.2.2.2.2.1 x.2.2.2.2.2.1 x.2.2.2.2.2.2.1 x.2.2.2.2.2.2.2.1 x.2.2.2.2.2.2.2.2.1 x.2.2.2.2.2.2.2.2.2.1 x.2.2.2.2.2.2.2.2.2.2.1 x.2.2.2.2.2.2.2.2.2.2.2.1 x.2.2.2.2.2.2.2.2.2.2.2.2.1 x.2.2.2.2.2.2.2.2.2.2.2.2.2.1 x.2.2.2.2.2.2.2.2.2.2.2.2.2.2.1 x.2.2.2.2.2.2.2.2.2.2.2.2.2.2.2.1 x.2.2.2.2.2.2.2.2.2.2.2.2.2.2.2.2.1 x.2.2.2.2.2.2.2.2.2.2.2.2.2.2.2.2.2.1 x.2.2.2.2.2.2.2.2.2.2.2.2.2.2.2.2.2.2.1 x.2.2.2.2.2.2.2.2.2.2.2.2.2.2.2.2.2.2.2
theorem mm_b20_ok {a1 a2 a3 a4 a5 a6 a7 a8 a9 a10 a11 a12 a13 a14 a15 a16 a17 a18 a19 a20 δ : Type} {o : Option (a1 × a2 × a3 × a4 × a5 × a6 × a7 × a8 × a9 × a10 × a11 × a12 × a13 × a14 × a15 × a16 × a17 × a18 × a19 × a20)} {k : a1 → a2 → a3 → a4 → a5 → a6 → a7 → a8 → a9 → a10 → a11 → a12 → a13 → a14 → a15 → a16 → a17 → a18 → a19 → a20 → Option δ} {z : δ} (h : mm_b20 o k = some z) : ∃ x1 x2 x3 x4 x5 x6 x7 x8 x9 x10 x11 x12 x13 x14 x15 x16 x17 x18 x19 x20, o = some (x1, x2, x3, x4, x5, x6, x7, x8, x9, x10, x11, x12, x13, x14, x15, x16, x17, x18, x19, x20) ∧ k x1 x2 x3 x4 x5 x6 x7 x8 x9 x10 x11 x12 x13 x14 x15 x16 x17 x18 x19 x20 = some z := by
  cases o with
  | none => cases h
  | some x => exact ⟨_, _, _, _, _, _, _, _, _, _, _, _, _, _, _, _, _, _, _, _, rfl, h⟩
def mm_b21 {a1 a2 a3 a4 a5 a6 a7 a8 a9 a10 a11 a12 a13 a14 a15 a16 a17 a18 a19 a20 a21 δ : Type} (o : Option (a1 × a2 × a3 × a4 × a5 × a6 × a7 × a8 × a9 × a10 × a11 × a12 × a13 × a14 × a15 × a16 × a17 × a18 × a19 × a20 × a21)) (k : a1 → a2 → a3 → a4 → a5 → a6 → a7 → a8 → a9 → a10 → a11 → a12 → a13 → a14 → a15 → a16 → a17 → a18 → a19 → a20 → a21 → Option δ) : Option δ := match o with
  | none => none
  | some x => k x.1 x.2.1 x.2.2.1 x.2.2.2.1 x.2.2.2.2.1 x.2.2.2.2.2.1 x.2.2.2.2.2.2.1 x.2.2.2.2.2.2.2.1 x.2.2.2.2.2.2.2.2.1 x.2.2.2.2.2.2.2.2.2.1 x.2.2.2.2.2.2.2.2.2.2.1 x.2.2.2.2.2.2.2.2.2.2.2.1 x.2.2.2.2.2.2.2.2.2.2.2.2.1 x.2.2.2.2.2.2.2.2.2.2.2.2.2.1 x.2.2.2.2.2.2.2.2.2.2.2.2.2.2.1 x.2.2.2.2.2.2.2.2.2.2.2.2.2.2.2.1 x.2.2.2.2.2.2.2.2.2.2.2.2.2.2.2.2.1 x.2.2.2.2.2.2.2.2.2.2.2.2.2.2.2.2.2.1 x.2.2.2.2.2.2.2.2.2.2.2.2.2.2.2.2.2.2.1 x.2.2.2.2.2.2.2.2.2.2.2.2.2.2.2.2.2.2.2.1 x.2.2.2.2.2.2.2.2.2.2.2.2.2.2.2.2.2.2.2.2
theorem mm_b21_ok {a1 a2 a3 a4 a5 a6 a7 a8 a9 a10 a11 a12 a13 a14 a15 a16 a17 a18 a19 a20 a21 δ : Type} {o : Option (a1 × a2 × a3 × a4 × a5 × a6 × a7 × a8 × a9 × a10 × a11 × a12 × a13 × a14 × a15 × a16 × a17 × a18 × a19 × a20 × a21)} {k : a1 → a2 → a3 → a4 → a5 → a6 → a7 → a8 → a9 → a10 → a11 → a12 → a13 → a14 → a15 → a16 → a17 → a18 → a19 → a20 → a21 → Option δ} {z : δ} (h : mm_b21 o k = some z) : ∃ x1 x2 x3 x4 x5 x6 x7 x8 x9 x10 x11 x12 x13 x14 x15 x16 x17 x18 x19 x20 x21, o = some (x1, x2, x3, x4, x5, x6, x7, x8, x9, x10, x11, x12, x13, x14, x15, x16, x17, x18, x19, x20, x21) ∧ k x1 x2 x3 x4 x5 x6 x7 x8 x9 x10 x11 x12 x13 x14 x15 x16 x17 x18 x19 x20 x21 = some z := by
  cases o with
  | none => cases h
  | some x => exact ⟨_, _, _, _, _, _, _, _, _, _, _, _, _, _, _, _, _, _, _, _, _, rfl, h⟩
def mm_b22 {a1 a2 a3 a4 a5 a6 a7 a8 a9 a10 a11 a12 a13 a14 a15 a16 a17 a18 a19 a20 a21 a22 δ : Type} (o : Option (a1 × a2 × a3 × a4 × a5 × a6 × a7 × a8 × a9 × a10 × a11 × a12 × a13 × a14 × a15 × a16 × a17 × a18 × a19 × a20 × a21 × a22)) (k : a1 → a2 → a3 → a4 → a5 → a6 → a7 → a8 → a9 → a10 → a11 → a12 → a13 → a14 → a15 → a16 → a17 → a18 → a19 → a20 → a21 → a22 → Option δ) : Option δ := match o with
  | none => none
  | some x => k x.1 x.2.1 x.2.2.1 x.2.2.2.1 x.2.2.2.2.1 x.2.2.2.2.2.1 x.2.2.2.2.2.2.1 x.2.2.2.2.2.2.2.1 x.2.2.2.2.2.2.2.2.1 x.2.2.2.2.2.2.2.2.2.1 x.2.2.2.2.2.2.2.2.2.2.1 x.2.2.2.2.2.2.2.2.2.2.2.1 x.2.2.2.2.2.2.2.2.2.2.2.2.1 x.2.2.2.2.2.2.2.2.2.2.2.2.2.1 x.2.2.2.2.2.2.2.2.2.2.2.2.2.2.1 x.2.2.2.2.2.2.2.2.2.2.2.2.2.2.2.1 x.2.2.2.2.2.2.2.2.2.2.2.2.2.2.2.2.1 x.2.2.2.2.2.2.2.2.2.2.2.2.2.2.2.2.2.1 x.2.2.2.2.2.2.2.2.2.2.2.2.2.2.2.2.2.2.1 x.2.2.2.2.2.2.2.2.2.2.2.2.2.2.2.2.2.2.2.1 x.2.2.2.2.2.2.2.2.2.2.2.2.2.2.2.2.2.2.2.2.1 x.2.2.2.2.2.2.2.2.2.2.2.2.2.2.2.2.2.2.2.2.2
theorem mm_b22_ok {a1 a2 a3 a4 a5 a6 a7 a8 a9 a10 a11 a12 a13 a14 a15 a16 a17 a18 a19 a20 a21 a22 δ : Type} {o : Option (a1 × a2 × a3 × a4 × a5 × a6 × a7 × a8 × a9 × a10 × a11 × a12 × a13 × a14 × a15 × a16 × a17 × a18 × a19 × a20 × a21 × a22)} {k : a1 → a2 → a3 → a4 → a5 → a6 → a7 → a8 → a9 → a10 → a11 → a12 → a13 → a14 → a15 → a16 → a17 → a18 → a19 → a20 → a21 → a22 → Option δ} {z : δ} (h : mm_b22 o k = some z) : ∃ x1 x2 x3 x4 x5 x6 x7 x8 x9 x10 x11 x12 x13 x14 x15 x16 x17 x18 x19 x20 x21 x22, o = some (x1, x2, x3, x4, x5, x6, x7, x8, x9, x10, x11, x12, x13, x14, x15, x16, x17, x18, x19, x20, x21, x22) ∧ k x1 x2 x3 x4 x5 x6 x7 x8 x9 x10 x11 x12 x13 x14 x15 x16 x17 x18 x19 x20 x21 x22 = some z := by
  cases o with
  | none => cases h
  | some x => exact ⟨_, _, _, _, _, _, _, _, _, _, _, _, _, _, _, _, _, _, _, _, _, _, rfl, h⟩
def mm_b23 {a1 a2 a3 a4 a5 a6 a7 a8 a9 a10 a11 a12 a13 a14 a15 a16 a17 a18 a19 a20 a21 a22 a23 δ : Type} (o : Option (a1 × a2 × a3 × a4 × a5 × a6 × a7 × a8 × a9 × a10 × a11 × a12 × a13 × a14 × a15 × a16 × a17 × a18 × a19 × a20 × a21 × a22 × a23)) (k : a1 → a2 → a3 → a4 → a5 → a6 → a7 → a8 → a9 → a10 → a11 → a12 → a13 → a14 → a15 → a16 → a17 → a18 → a19 → a20 → a21 → a22 → a23 → Option δ) : Option δ := match o with
  | none => none
  | some x => k x.1 x.2.1 x.2.2.1 x.2.2.2.1 x.2.2.2.2.1 x.2.2.2.2.2.1 x.2.2.2.2.2.2.1 x.2.2.2.2.2.2.2.1 x.2.2.2.2.2.2.2.2.1 x.2.2.2.2.2.2.2.2.2.1 x.2.2.2.2.2.2.2.2.2.2.1 x.2.2.2.2.2.2.2.2.2.2.2.1 x.2.2.2.2.2.2.2.2.2.2.2.2.1 x.2.2.2.2.2.2.2.2.2.2.2.2.2.1 x.2.2.2.2.2.2.2.2.2.2.2.2.2.2.1 x.2.2.2.2.2.2.2.2.2.2.2.2.2.2.2.1 x.2.2.2.2.2.2.2.2.2.2.2.2.2.2.2.2.1 x.2.2.2.2.2.2.2.2.2.2.2.2.2.2.2.2.2.1 x.2.2.2.2.2.2.2.2.2.2.2.2.2.2.2.2.2.2.1 x.2.2.2.2.2.2.2.2.2.2.2.2.2.2.2.2.2.2.2.1 x.2.2.2.2.2.2.2.2.2.2.2.2.2.2.2.2.2.2.2.2.1 x.2.2.2.2.2.2.2.2.2.2.2.2.2.2.2.2.2.2.2.2.2.1 x.2.2.2.2.2.2.2.2.2.2.2.2.2.2.2.2.2.2.2.2.2.2
theorem mm_b23_ok {a1 a2 a3 a4 a5 a6 a7 a8 a9 a10 a11 a12 a13 a14 a15 a16 a17 a18 a19 a20 a21 a22 a23 δ : Type} {o : Option (a1 × a2 × a3 × a4 × a5 × a6 × a7 × a8 × a9 × a10 × a11 × a12 × a13 × a14 × a15 × a16 × a17 × a18 × a19 × a20 × a21 × a22 × a23)} {k : a1 → a2 → a3 → a4 → a5 → a6 → a7 → a8 → a9 → a10 → a11 → a12 → a13 → a14 → a15 → a16 → a17 → a18 → a19 → a20 → a21 → a22 → a23 → Option δ} {z : δ} (h : mm_b23 o k = some z) : ∃ x1 x2 x3 x4 x5 x6 x7 x8 x9 x10 x11 x12 x13 x14 x15 x16 x17 x18 x19 x20 x21 x22 x23, o = some (x1, x2, x3, x4, x5, x6, x7, x8, x9, x10, x11, x12, x13, x14, x15, x16, x17, x18, x19, x20, x21, x22, x23) ∧ k x1 x2 x3 x4 x5 x6 x7 x8 x9 x10 x11 x12 x13 x14 x15 x16 x17 x18 x19 x20 x21 x22 x23 = some z := by
  cases o with
  | none => cases h
  | some x => exact ⟨_, _, _, _, _, _, _, _, _, _, _, _, _, _, _, _, _, _, _, _, _, _, _, rfl, h⟩
def mm_b24 {a1 a2 a3 a4 a5 a6 a7 a8 a9 a10 a11 a12 a13 a14 a15 a16 a17 a18 a19 a20 a21 a22 a23 a24 δ : Type} (o : Option (a1 × a2 × a3 × a4 × a5 × a6 × a7 × a8 × a9 × a10 × a11 × a12 × a13 × a14 × a15 × a16 × a17 × a18 × a19 × a20 × a21 × a22 × a23 × a24)) (k : a1 → a2 → a3 → a4 → a5 → a6 → a7 → a8 → a9 → a10 → a11 → a12 → a13 → a14 → a15 → a16 → a17 → a18 → a19 → a20 → a21 → a22 → a23 → a24 → Option δ) : Option δ := match o with
  | none => none
  | some x => k x.1 x.2.1 x.2.2.1 x.2.2.2.1 x.2.2.2.2.1 x.2.2.2.2.2.1 x.2.2.2.2.2.2.1 x.2.2.2.2.2.2.2.1 x.2.2.2.2.2.2.2.2.1 x.2.2.2.2.2.2.2.2.2.1 x.2.2.2.2.2.2.2.2.2.2.1 x.2.2.2.2.2.2.2.2.2.2.2.1 x.2.2.2.2.2.2.2.2.2.2.2.2.1 x.2.2.2.2.2.2.2.2.2.2.2.2.2.1 x.2.2.2.2.2.2.2.2.2.2.2.2.2.2.1 x.2.2.2.2.2.2.2.2.2.2.2.2.2.2.2.1 x.2.2.2.2.2.2.2.2.2.2.2.2.2.2.2.2.1 x.2.2.2.2.2.2.2.2.2.2.2.2.2.2.2.2.2.1 x.2.2.2.2.2.2.2.2.2.2.2.2.2.2.2.2.2.2.1 x.2.2.2.2.2.2.2.2.2.2.2.2.2.2.2.2.2.2.2.1 x.2.2.2.2.2.2.2.2.2.2.2.2.2.2.2.2.2.2.2.2.1 x.2.2.2.2.2.2.2.2.2.2.2.2.2.2.2.2.2.2.2.2.2.1 x.2.2.2.2.2.2.2.2.2.2.2.2.2.2.2.2.2.2.2.2.2.2.1 x.2.2.2.2.2.2.2.2.2.2.2.2.2.2.2.2.2.2.2.2.2.2.2
theorem mm_b24_ok {a1 a2 a3 a4 a5 a6 a7 a8 a9 a10 a11 a12 a13 a14 a15 a16 a17 a18 a19 a20 a21 a22 a23 a24 δ : Type} {o : Option (a1 × a2 × a3 × a4 × a5 × a6 × a7 × a8 × a9 × a10 × a11 × a12 × a13 × a14 × a15 × a16 × a17 × a18 × a19 × a20 × a21 × a22 × a23 × a24)} {k : a1 → a2 → a3 → a4 → a5 → a6 → a7 → a8 → a9 → a10 → a11 → a12 → a13 → a14 → a15 → a16 → a17 → a18 → a19 → a20 → a21 → a22 → a23 → a24 → Option δ} {z : δ} (h : mm_b24 o k = some z) : ∃ x1 x2 x3 x4 x5 x6 x7 x8 x9 x10 x11 x12 x13 x14 x15 x16 x17 x18 x19 x20 x21 x22 x23 x24, o = some (x1, x2, x3, x4, x5, x6, x7, x8, x9, x10, x11, x12, x13, x14, x15, x16, x17, x18, x19, x20, x21, x22, x23, x24) ∧ k x1 x2 x3 x4 x5 x6 x7 x8 x9 x10 x11 x12 x13 x14 x15 x16 x17 x18 x19 x20 x21 x22 x23 x24 = some z := by
  cases o with
  | none => cases h
  | some x => exact ⟨_, _, _, _, _, _, _, _, _, _, _, _, _, _, _, _, _, _, _, _, _, _, _, _, rfl, h⟩
theorem mm_narC {v : Int32} (h : mm_c v = v) : narrow .char (.int v) = .int v := by
  have h2 := pk_nc v
  unfold mm_c at h
  rw [h] at h2
  exact h2
theorem mm_narZ {v : Int32} (h : v = 0 ∨ v = 1) : narrow .boolean (.int v) = .int v := by
  rcases h with rfl | rfl <;> decide
theorem mm_fitZ {v : Int32} (h : v = 0 ∨ v = 1) : fits .boolean (.int v) = true := by
  rcases h with rfl | rfl <;> decide
end MMpure
section MM
variable {p : Program} {l : Launch} {e : Env} {R : Room} {s : State} {m : MethodId} {args : Array Value} {below : List Frame} {meth : Method} {c : Code} {H : Heap} {locs : List Loc} {cells slots mc ms : Nat} {Q : State → Prop}
variable {cc : ByteArray} {pc : Nat} {ls : Array Slot} {rest st0 : List Value} {D : va_G} {cl : List vw_C} {tys : List (ClassId × FieldType)} {A : Nat → Prop} {ws ws' wc wr w1 : va_W}
/-- what the machine holds beside the heap's cells (constants, nest mates' words): it stays -/
def mm_Zok (Z : (Nat → Prop) → State → Heap → Prop) : Prop :=
  (∀ (A : Nat → Prop) (u U : State) (H : Heap), u.WarmedH U.vm → Z A u H → Z A U H) ∧ (∀ (A : Nat → Prop) (U : State) (H H1 : Heap), Z A U H → (∀ a : Nat, a < H.size → ¬ A a → H1[a]? = H[a]?) → Z A U H1) ∧
  (∀ (A B : Nat → Prop) (U : State) (H : Heap), Z A U H → (∀ q, B q → A q) → Z B U H) ∧ (∀ (A : Nat → Prop) (U : State) (g : JFrame) (mk : MethodId) (a : Array Value) (H : Heap), Z A U H → Z A (U.calling g mk a) H)
def mm_w (D : va_G) (cl : List vw_C) (A : Nat → Prop) (s : State) (ws : va_W) (H : Heap) (locs : List Loc) : Prop := va_P D cl ws H ∧ va_D A ws ∧ va_S A s.heap H locs
theorem mm_wsub (h : mm_w D cl A s ws H locs) (is : List Nat) (hn : va_nd is = true) (hs : is.filterMap (fun i => ws[i]?) = ws') (hm : is.map (fun i => ws[i]?) = ws'.map some) : mm_w D cl A s ws' H locs := ⟨h.1.sub is hs, h.2.1.sub is hn hm, h.2.2⟩
def mm_cx (D : va_G) (cl : List vw_C) (tys : List (ClassId × FieldType)) (Z : (Nat → Prop) → State → Heap → Prop) (p : Program) (s : State) (m : MethodId) (args : Array Value) (meth : Method) (c : Code) (cc : ByteArray) (maxL : Nat) (ret : Option FieldType) (own : String) (w : List Cond) (A : Nat → Prop) : Prop :=
  p.tables.exec = Jvm.exec ∧ c.code = cc ∧ meth.sig.returnType = ret ∧ c.maxLocals = maxL ∧ s.vm.findClass own = some m.cls ∧ (∀ x ∈ w, x.before args s = true) ∧ meth.locks = false ∧ va_K D cl tys s ∧ Z A s s.heap ∧ (∀ q, s.heap.size ≤ q → A q)
def mm_pre (D : va_G) (cl : List vw_C) (tys : List (ClassId × FieldType)) (Z : (Nat → Prop) → State → Heap → Prop) (ws : va_W) (sz : Nat) (av : List Value) : Array Value → State → Prop :=
  va_Pc av (fun U => U.heap.size = sz ∧ va_P D cl ws U.heap ∧ va_K D cl tys U ∧ va_D (fun _ => True) ws ∧ Z (va_A ws sz) U U.heap)
def mm_B (D : va_G) (cl : List vw_C) (tys : List (ClassId × FieldType)) (A : Nat → Prop) (w1 : va_W) : Unit → State → Prop := fun _ t => va_P D cl w1 t.heap ∧ va_K D cl tys t ∧ va_D A w1
def mm_qi (D : va_G) (cl : List vw_C) (tys : List (ClassId × FieldType)) (A : Nat → Prop) (w1 : va_W) (r : Int32) : Array Value → State → Outcome → State → Prop := va_Qi (fun r' (_ : Unit) => r' = r) (mm_B D cl tys A w1) A
def mm_ql (D : va_G) (cl : List vw_C) (tys : List (ClassId × FieldType)) (A : Nat → Prop) (w1 : va_W) (r : Int64) : Array Value → State → Outcome → State → Prop := va_Ql (fun r' (_ : Unit) => r' = r) (mm_B D cl tys A w1) A
def mm_qq (D : va_G) (cl : List vw_C) (tys : List (ClassId × FieldType)) (A : Nat → Prop) (w1 : va_W) (r : Option Nat) : Array Value → State → Outcome → State → Prop := va_Qq (fun r' (_ : Unit) => r' = r) (mm_B D cl tys A w1) A
def mm_qv (D : va_G) (cl : List vw_C) (tys : List (ClassId × FieldType)) (A : Nat → Prop) (w1 : va_W) : Array Value → State → Outcome → State → Prop := va_Qv (fun _ : Unit => True) (mm_B D cl tys A w1) A
theorem mm_of {Z : (Nat → Prop) → State → Heap → Prop} {sz : Nat} {av : List Value} {y : MethodName} {w w' : List Cond} {rm : Room} {Qc : Array Value → State → Outcome → State → Prop} {maxL : Nat} {ret : Option FieldType} {own : String} (hy : plainName y.cls = true) (hw : w = Cond.code y cc maxL ret :: w') (ho : y.cls = own)
    (body : ∀ (p : Program) (e : Env) (s : State) (m : MethodId) (below : List Frame) (meth : Method) (c : Code), s.heap.size = sz → mm_cx D cl tys Z p s m av.toArray meth c cc maxL ret own w (va_A ws sz) → mm_w D cl (va_A ws sz) s ws s.heap [] → meth.name = y.name →
      W p l e rm s m av.toArray below meth c s.heap [] 0 0 (MQ below Qc av.toArray s mc ms (va_A ws sz)) (entryFrame m av.toArray maxL)) : Met l y w rm (mm_pre D cl tys Z ws sz av) Qc mc ms (va_A ws sz) := by
  refine Met.ofW (cc := cc) (maxL := maxL) (ret := ret) hy hw ?_
  intro p e s m args below meth c s₁ B hml hv
  obtain ⟨rfl, hsz, hP, hK, hD0, hZ⟩ := hv
  have hts := atoms_spec (ws := w) B.pre
  have hown : s.vm.findClass own = some m.cls := by rw [← ho]; exact findClass_of_methodNamed B.named
  have hin : meth.name = y.name := (name_of_methodNamed B.named B.method).1
  subst hsz
  exact body p e s m below meth c rfl ⟨B.exec, B.bytes, B.returns, hml, hown, hts, B.notSynchronized, hK, hZ, fun q h => Or.inr h⟩ ⟨hP, hD0.self, va_S.rf⟩ hin
theorem mm_iret {v r : Int32} (hx : p.tables.exec = Jvm.exec) (hb : c.code = cc) (hr : meth.sig.returnType = some .int) (hlocks : meth.locks = false) (hK : va_K D cl tys s) (hw : mm_w D cl A s w1 H locs) (hv : v = r) (hdg : decode cc pc = .ok (.ireturn, 1)) :
    W p l e R s m args below meth c H locs cells slots (MQ below (mm_qi D cl tys A w1 r) args s cells slots A) (F0 m pc ls [.int v]) :=
  W.iret hx hb hr (fun t ht hW => ⟨⟨v, (), rfl, hv, by rw [ht]; exact hw.1, va_K.moved hW.alike hK, hw.2.1⟩, hw.2.2.F ht⟩) hw.2.2.2.2 hdg hlocks
theorem mm_zret {v r : Int32} {ty : FieldType} (hx : p.tables.exec = Jvm.exec) (hb : c.code = cc) (hr : meth.sig.returnType = some ty) (hlocks : meth.locks = false) (hK : va_K D cl tys s) (hn : narrow ty (.int v) = .int v) (hw : mm_w D cl A s w1 H locs) (hv : v = r) (hdg : decode cc pc = .ok (.ireturn, 1)) :
    W p l e R s m args below meth c H locs cells slots (MQ below (mm_qi D cl tys A w1 r) args s cells slots A) (F0 m pc ls [.int v]) :=
  W.zret hx hb hr hn (fun t ht hW => ⟨⟨v, (), rfl, hv, by rw [ht]; exact hw.1, va_K.moved hW.alike hK, hw.2.1⟩, hw.2.2.F ht⟩) hw.2.2.2.2 hdg hlocks
theorem mm_lret {v r : Int64} (hx : p.tables.exec = Jvm.exec) (hb : c.code = cc) (hr : meth.sig.returnType = some .long) (hlocks : meth.locks = false) (hK : va_K D cl tys s) (hw : mm_w D cl A s w1 H locs) (hv : v = r) (hdg : decode cc pc = .ok (.lreturn, 1)) :
    W p l e R s m args below meth c H locs cells slots (MQ below (mm_ql D cl tys A w1 r) args s cells slots A) (F0 m pc ls [.long v]) :=
  W.lret hx hb hr (fun t ht hW => ⟨⟨v, (), rfl, hv, by rw [ht]; exact hw.1, va_K.moved hW.alike hK, hw.2.1⟩, hw.2.2.F ht⟩) hw.2.2.2.2 hdg hlocks
theorem mm_vret (hx : p.tables.exec = Jvm.exec) (hb : c.code = cc) (hr : meth.sig.returnType = none) (hlocks : meth.locks = false) (hK : va_K D cl tys s) (hw : mm_w D cl A s w1 H locs) (hdg : decode cc pc = .ok (.return_, 1)) :
    W p l e R s m args below meth c H locs cells slots (MQ below (mm_qv D cl tys A w1) args s cells slots A) (F0 m pc ls []) :=
  W.vret hx hb hr (fun t ht hW => ⟨⟨(), rfl, trivial, by rw [ht]; exact hw.1, va_K.moved hW.alike hK, hw.2.1⟩, hw.2.2.F ht⟩) hw.2.2.2.2 hdg hlocks
theorem mm_pv {Z : (Nat → Prop) → State → Heap → Prop} (Zo : mm_Zok Z) (hK : va_K D cl tys s) (hw : mm_w D cl A s ws H locs) (hZ : Z A s s.heap) (hA : ∀ q, s.heap.size ≤ q → A q) (isC : List Nat) (hn : va_nd isC = true) (hs : isC.filterMap (fun i => ws[i]?) = wc) (hC : isC.map (fun i => ws[i]?) = wc.map some)
    {ci q0 : Nat} {q : vw_C} {b : Nat} {fs : List Value} (hc : cl[ci]? = some q) (he : wc[q0]? = some (b, .inr (ci, fs))) {As : List Value} : PreV s H q.1 b (mm_pre D cl tys Z wc H.size (.ref b :: As)) As := by
  have hPc := hw.1.sub isC hs
  have hDc := hw.2.1.sub isC hn hC
  have hFc := va_free (wc := wc) hw.2.1 hw.2.2 hA isC hC
  refine ⟨fun a U g mk q => ?_, va_recv hK hPc hc he, fun U hU hW => ⟨rfl, by rw [hU], by rw [hU]; exact hPc, va_K.moved hW.alike hK, hDc.weaken (fun _ _ _ _ => trivial), ?_⟩⟩
  · obtain ⟨q0, q1, qP, qK, qD, qZ⟩ := q
    exact ⟨q0, q1, qP, va_K.moved (u := U) (U := U.calling g mk a) (Vm.Alike.refl U.vm) qK, qD, Zo.2.2.2 _ _ _ _ _ _ qZ⟩
  · rw [hU]
    exact Zo.2.2.1 _ _ _ _ (Zo.1 _ _ _ _ hW (Zo.2.1 _ _ _ _ hZ (fun a h1 h2 => hw.2.2.2.1 a h1 h2))) hFc
theorem mm_pvR {Z : (Nat → Prop) → State → Heap → Prop} (Zo : mm_Zok Z) (hK : va_K D cl tys s) (hw : mm_w D cl A s ws H locs) (hZ : Z A s s.heap) (hA : ∀ q, s.heap.size ≤ q → A q) (isC : List Nat) (hn : va_nd isC = true) (hs : isC.filterMap (fun i => ws[i]?) = wc) (hC : isC.map (fun i => ws[i]?) = wc.map some)
    {C : String} {b : Nat} (hrv : ∃ cell : Cell, H[b]? = some cell ∧ cell.vm.isStatics = false ∧ s.vm.findClass C = some cell.cls) {As : List Value} : PreV s H C b (mm_pre D cl tys Z wc H.size (.ref b :: As)) As := by
  have hPc := hw.1.sub isC hs
  have hDc := hw.2.1.sub isC hn hC
  have hFc := va_free (wc := wc) hw.2.1 hw.2.2 hA isC hC
  refine ⟨fun a U g mk q => ?_, hrv, fun U hU hW => ⟨rfl, by rw [hU], by rw [hU]; exact hPc, va_K.moved hW.alike hK, hDc.weaken (fun _ _ _ _ => trivial), ?_⟩⟩
  · obtain ⟨q0, q1, qP, qK, qD, qZ⟩ := q
    exact ⟨q0, q1, qP, va_K.moved (u := U) (U := U.calling g mk a) (Vm.Alike.refl U.vm) qK, qD, Zo.2.2.2 _ _ _ _ _ _ qZ⟩
  · rw [hU]
    exact Zo.2.2.1 _ _ _ _ (Zo.1 _ _ _ _ hW (Zo.2.1 _ _ _ _ hZ (fun a h1 h2 => hw.2.2.2.1 a h1 h2))) hFc
theorem mm_ps {Z : (Nat → Prop) → State → Heap → Prop} (Zo : mm_Zok Z) (hK : va_K D cl tys s) (hw : mm_w D cl A s ws H locs) (hZ : Z A s s.heap) (hA : ∀ q, s.heap.size ≤ q → A q) (isC : List Nat) (hn : va_nd isC = true) (hs : isC.filterMap (fun i => ws[i]?) = wc) (hC : isC.map (fun i => ws[i]?) = wc.map some)
    {As : List Value} : PreS s H (mm_pre D cl tys Z wc H.size As) As := by
  have hPc := hw.1.sub isC hs
  have hDc := hw.2.1.sub isC hn hC
  have hFc := va_free (wc := wc) hw.2.1 hw.2.2 hA isC hC
  refine ⟨fun a U g mk q => ?_, fun U hU hW => ⟨rfl, by rw [hU], by rw [hU]; exact hPc, va_K.moved hW.alike hK, hDc.weaken (fun _ _ _ _ => trivial), ?_⟩⟩
  · obtain ⟨q0, q1, qP, qK, qD, qZ⟩ := q
    exact ⟨q0, q1, qP, va_K.moved (u := U) (U := U.calling g mk a) (Vm.Alike.refl U.vm) qK, qD, Zo.2.2.2 _ _ _ _ _ _ qZ⟩
  · rw [hU]
    exact Zo.2.2.1 _ _ _ _ (Zo.1 _ _ _ _ hW (Zo.2.1 _ _ _ _ hZ (fun a h1 h2 => hw.2.2.2.1 a h1 h2))) hFc
theorem mm_ci {r : Int32} {a : Array Value} (hr : va_Run p l e R s m args below meth c H locs cells slots mc ms (F0 m pc ls st0) rest (mm_qi D cl tys (va_A wc H.size) w1 r a) (va_A wc H.size)) (hw : mm_w D cl A s ws H locs) (hA : ∀ q, s.heap.size ≤ q → A q) (isC isR : List Nat) (hC : isC.map (fun i => ws[i]?) = wc.map some) (hR : isR.map (fun i => ws[i]?) = wr.map some) (hn : va_nd isR = true) (hdis : ∀ i ∈ isR, i ∉ isC)
    (kk : ∀ (H : Heap) (locs : List Loc), mm_w D cl A s (wr ++ w1) H locs → W p l e R s m args below meth c H locs (cells + mc) (slots + ms) Q (F0 m (pc + 3) ls (.int r :: rest))) : W p l e R s m args below meth c H locs cells slots Q (F0 m pc ls st0) := by
  have hFc := va_free (wc := wc) hw.2.1 hw.2.2 hA isC hC
  refine va_calli hr hw.2.2 (fun q _ h => hFc q h) hFc (fun r' u t H1 locs1 ht hvm hr' hB hz1 hk1 hS => ?_)
  subst hr'
  obtain ⟨hP1, hK1, hD1⟩ := hB
  rw [ht] at hP1
  obtain ⟨hP, hD⟩ := va_join hw.1 hw.2.1 isC isR hC hR hn hdis hk1 hFc hP1 hD1
  exact kk H1 locs1 ⟨hP, hD, hS⟩
theorem mm_cl {r : Int64} {a : Array Value} (hr : va_Run p l e R s m args below meth c H locs cells slots mc ms (F0 m pc ls st0) rest (mm_ql D cl tys (va_A wc H.size) w1 r a) (va_A wc H.size)) (hw : mm_w D cl A s ws H locs) (hA : ∀ q, s.heap.size ≤ q → A q) (isC isR : List Nat) (hC : isC.map (fun i => ws[i]?) = wc.map some) (hR : isR.map (fun i => ws[i]?) = wr.map some) (hn : va_nd isR = true) (hdis : ∀ i ∈ isR, i ∉ isC)
    (kk : ∀ (H : Heap) (locs : List Loc), mm_w D cl A s (wr ++ w1) H locs → W p l e R s m args below meth c H locs (cells + mc) (slots + ms) Q (F0 m (pc + 3) ls (.long r :: rest))) : W p l e R s m args below meth c H locs cells slots Q (F0 m pc ls st0) := by
  have hFc := va_free (wc := wc) hw.2.1 hw.2.2 hA isC hC
  refine va_calll hr hw.2.2 (fun q _ h => hFc q h) hFc (fun r' u t H1 locs1 ht hvm hr' hB hz1 hk1 hS => ?_)
  subst hr'
  obtain ⟨hP1, hK1, hD1⟩ := hB
  rw [ht] at hP1
  obtain ⟨hP, hD⟩ := va_join hw.1 hw.2.1 isC isR hC hR hn hdis hk1 hFc hP1 hD1
  exact kk H1 locs1 ⟨hP, hD, hS⟩
theorem mm_cq {r : Option Nat} {a : Array Value} (hr : va_Run p l e R s m args below meth c H locs cells slots mc ms (F0 m pc ls st0) rest (mm_qq D cl tys (va_A wc H.size) w1 r a) (va_A wc H.size)) (hw : mm_w D cl A s ws H locs) (hA : ∀ q, s.heap.size ≤ q → A q) (isC isR : List Nat) (hC : isC.map (fun i => ws[i]?) = wc.map some) (hR : isR.map (fun i => ws[i]?) = wr.map some) (hn : va_nd isR = true) (hdis : ∀ i ∈ isR, i ∉ isC)
    (kk : ∀ (H : Heap) (locs : List Loc), mm_w D cl A s (wr ++ w1) H locs → W p l e R s m args below meth c H locs (cells + mc) (slots + ms) Q (F0 m (pc + 3) ls (va_rf r :: rest))) : W p l e R s m args below meth c H locs cells slots Q (F0 m pc ls st0) := by
  have hFc := va_free (wc := wc) hw.2.1 hw.2.2 hA isC hC
  refine va_callq hr hw.2.2 (fun q _ h => hFc q h) hFc (fun r' u t H1 locs1 ht hvm hr' hB hz1 hk1 hS => ?_)
  subst hr'
  obtain ⟨hP1, hK1, hD1⟩ := hB
  rw [ht] at hP1
  obtain ⟨hP, hD⟩ := va_join hw.1 hw.2.1 isC isR hC hR hn hdis hk1 hFc hP1 hD1
  exact kk H1 locs1 ⟨hP, hD, hS⟩
theorem mm_cv {a : Array Value} (hr : va_Run p l e R s m args below meth c H locs cells slots mc ms (F0 m pc ls st0) rest (mm_qv D cl tys (va_A wc H.size) w1 a) (va_A wc H.size)) (hw : mm_w D cl A s ws H locs) (hA : ∀ q, s.heap.size ≤ q → A q) (isC isR : List Nat) (hC : isC.map (fun i => ws[i]?) = wc.map some) (hR : isR.map (fun i => ws[i]?) = wr.map some) (hn : va_nd isR = true) (hdis : ∀ i ∈ isR, i ∉ isC)
    (kk : ∀ (H : Heap) (locs : List Loc), mm_w D cl A s (wr ++ w1) H locs → W p l e R s m args below meth c H locs (cells + mc) (slots + ms) Q (F0 m (pc + 3) ls rest)) : W p l e R s m args below meth c H locs cells slots Q (F0 m pc ls st0) := by
  have hFc := va_free (wc := wc) hw.2.1 hw.2.2 hA isC hC
  refine va_callv hr hw.2.2 (fun q _ h => hFc q h) hFc (fun u t H1 locs1 ht hvm hr' hB hz1 hk1 hS => ?_)
  obtain ⟨hP1, hK1, hD1⟩ := hB
  rw [ht] at hP1
  obtain ⟨hP, hD⟩ := va_join hw.1 hw.2.1 isC isR hC hR hn hdis hk1 hFc hP1 hD1
  exact kk H1 locs1 ⟨hP, hD, hS⟩
end MM

