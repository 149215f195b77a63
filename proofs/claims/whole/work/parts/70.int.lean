section PUint
def zI (z : Int) : Int32 := Int32.ofInt z
def zJ (z : Int) : Int64 := Int64.ofInt z
theorem zI_toInt {z : Int} (h1 : -2147483648 ≤ z) (h2 : z < 2147483648) : (zI z).toInt = z := Int32.toInt_ofInt_of_le h1 h2
theorem zJ_toInt {z : Int} (h1 : -9223372036854775808 ≤ z) (h2 : z < 9223372036854775808) : (zJ z).toInt = z := Int64.toInt_ofInt_of_le h1 h2
theorem zI_of (x : Int32) : ∃ z : Int, x = zI z ∧ -2147483648 ≤ z ∧ z < 2147483648 := ⟨x.toInt, (Int32.ofInt_toInt x).symm, Int32.le_toInt x, Int32.toInt_lt x⟩
theorem zJ_of (x : Int64) : ∃ z : Int, x = zJ z ∧ -9223372036854775808 ≤ z ∧ z < 9223372036854775808 := ⟨x.toInt, (Int64.ofInt_toInt x).symm, Int64.le_toInt x, Int64.toInt_lt x⟩
theorem zI_n (n : Nat) : nI n = zI (n : Int) := by unfold nI zI; exact (Int32.ofInt_eq_ofNat).symm
theorem zI_add (a b : Int) : zI a + zI b = zI (a + b) := (Int32.ofInt_add a b).symm
theorem zI_sub (a b : Int) : zI a - zI b = zI (a - b) := (Int32.ofInt_sub a b).symm
theorem zI_mul (a b : Int) : zI a * zI b = zI (a * b) := (Int32.ofInt_mul a b).symm
theorem zI_neg (a : Int) : -zI a = zI (-a) := (Int32.ofInt_neg a).symm
theorem zJ_add (a b : Int) : zJ a + zJ b = zJ (a + b) := (Int64.ofInt_add a b).symm
theorem zJ_sub (a b : Int) : zJ a - zJ b = zJ (a - b) := (Int64.ofInt_sub a b).symm
theorem zJ_mul (a b : Int) : zJ a * zJ b = zJ (a * b) := (Int64.ofInt_mul a b).symm
theorem zJ_neg (a : Int) : -zJ a = zJ (-a) := (Int64.ofInt_neg a).symm
theorem zI_lit (n : Nat) : (OfNat.ofNat n : Int32) = zI (OfNat.ofNat n : Int) := (Int32.ofInt_eq_ofNat).symm
theorem zJ_lit (n : Nat) : (OfNat.ofNat n : Int64) = zJ (OfNat.ofNat n : Int) := (Int64.ofInt_eq_ofNat).symm
theorem zI_le {a b : Int} (a1 : -2147483648 ≤ a) (a2 : a < 2147483648) (b1 : -2147483648 ≤ b) (b2 : b < 2147483648) : (zI a ≤ zI b) = (a ≤ b) := by
  rw [Int32.le_iff_toInt_le, zI_toInt a1 a2, zI_toInt b1 b2]
theorem zI_lt {a b : Int} (a1 : -2147483648 ≤ a) (a2 : a < 2147483648) (b1 : -2147483648 ≤ b) (b2 : b < 2147483648) : (zI a < zI b) = (a < b) := by
  rw [Int32.lt_iff_toInt_lt, zI_toInt a1 a2, zI_toInt b1 b2]
theorem zI_eq {a b : Int} (a1 : -2147483648 ≤ a) (a2 : a < 2147483648) (b1 : -2147483648 ≤ b) (b2 : b < 2147483648) : (zI a = zI b) = (a = b) := by
  rw [← Int32.toInt_inj, zI_toInt a1 a2, zI_toInt b1 b2]
theorem zJ_le {a b : Int} (a1 : -9223372036854775808 ≤ a) (a2 : a < 9223372036854775808) (b1 : -9223372036854775808 ≤ b) (b2 : b < 9223372036854775808) : (zJ a ≤ zJ b) = (a ≤ b) := by
  rw [Int64.le_iff_toInt_le, zJ_toInt a1 a2, zJ_toInt b1 b2]
theorem zJ_lt {a b : Int} (a1 : -9223372036854775808 ≤ a) (a2 : a < 9223372036854775808) (b1 : -9223372036854775808 ≤ b) (b2 : b < 9223372036854775808) : (zJ a < zJ b) = (a < b) := by
  rw [Int64.lt_iff_toInt_lt, zJ_toInt a1 a2, zJ_toInt b1 b2]
theorem zJ_eq {a b : Int} (a1 : -9223372036854775808 ≤ a) (a2 : a < 9223372036854775808) (b1 : -9223372036854775808 ≤ b) (b2 : b < 9223372036854775808) : (zJ a = zJ b) = (a = b) := by
  rw [← Int64.toInt_inj, zJ_toInt a1 a2, zJ_toInt b1 b2]
theorem zI_nat {a : Int} (a1 : -2147483648 ≤ a) (a2 : a < 2147483648) : (zI a).toNatClampNeg = a.toNat := by
  show (zI a).toInt.toNat = _
  rw [zI_toInt a1 a2]
theorem zI_div {a b : Int} (a1 : -2147483648 < a) (a2 : a < 2147483648) (b1 : -2147483648 ≤ b) (b2 : b < 2147483648) : zI a / zI b = zI (a.tdiv b) := by
  apply Int32.toInt_inj.mp
  rw [Int32.toInt_div, zI_toInt (by omega) a2, zI_toInt b1 b2]
  unfold zI
  rw [Int32.toInt_ofInt]
theorem zJ_div {a b : Int} (a1 : -9223372036854775808 ≤ a) (a2 : a < 9223372036854775808) (b1 : -9223372036854775808 ≤ b) (b2 : b < 9223372036854775808) : zJ a / zJ b = zJ (a.tdiv b) := by
  apply Int64.toInt_inj.mp
  rw [Int64.toInt_div, zJ_toInt a1 a2, zJ_toInt b1 b2]
  unfold zJ
  rw [Int64.toInt_ofInt]
theorem zI_J {a : Int} (a1 : -2147483648 ≤ a) (a2 : a < 2147483648) : (zI a).toInt64 = zJ a := by
  apply Int64.toInt_inj.mp
  rw [Int32.toInt_toInt64, zI_toInt a1 a2, zJ_toInt (by omega) (by omega)]
theorem zJ_I {a : Int} (a1 : -2147483648 ≤ a) (a2 : a < 2147483648) : (zJ a).toInt32 = zI a := by
  apply Int32.toInt_inj.mp
  rw [Int64.toInt_toInt32, zJ_toInt (by omega) (by omega), zI_toInt a1 a2]
  rw [Int.bmod_eq_of_le] <;> omega
theorem zI_c {a : Int} (a1 : 0 ≤ a) (a2 : a < 65536) : mm_c (zI a) = zI a := by
  unfold mm_c
  apply Int32.toInt_inj.mp
  obtain ⟨n, rfl⟩ := Int.eq_ofNat_of_zero_le a1
  have hn : n < 65536 := by omega
  have h1 : (zI (n : Int)).toUInt32 = UInt32.ofNat n := by
    rw [← zI_n]; rfl
  rw [h1]
  have h2 : UInt32.ofNat n % 65536 = UInt32.ofNat n := by
    apply UInt32.toNat_inj.mp
    rw [UInt32.toNat_mod]
    have h3 : (UInt32.ofNat n).toNat = n := UInt32.toNat_ofNat_of_lt (by show n < 4294967296; omega)
    rw [h3]
    exact Nat.mod_eq_of_lt hn
  rw [h2, ← zI_n]
  rfl
theorem zI_nar {a : Int} (a1 : 0 ≤ a) (a2 : a < 65536) : vp_nar .char (zI a) = zI a := by
  have h := zI_c a1 a2
  unfold mm_c at h
  unfold vp_nar
  simp only [narrow]
  first | exact h | (simp; exact h)
theorem upd_same (f : Nat → Int32) (k : Nat) (x : Int32) : upd f k x k = x := by simp [upd]
theorem upd_ne (f : Nat → Int32) {k j : Nat} (x : Int32) (h : j ≠ k) : upd f k x j = f j := by simp [upd, h]
def ck (c : Int32) : Prop := ∃ z : Int, c = zI z ∧ 0 ≤ z ∧ z < 65536
theorem ck_nar {c : Int32} (h : ck c) : vp_nar .char c = c := by
  obtain ⟨z, rfl, h1, h2⟩ := h
  exact zI_nar h1 h2
theorem ck_c {c : Int32} (h : ck c) : mm_c c = c := by
  obtain ⟨z, rfl, h1, h2⟩ := h
  exact zI_c h1 h2
theorem ck_z {z : Int} (h1 : 0 ≤ z) (h2 : z < 65536) : ck (zI z) := ⟨z, rfl, h1, h2⟩
end PUint
