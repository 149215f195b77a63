section PUwords
theorem w_len : ∀ k, k < 14 → f_String_length k = some (zI (kLen k : Int)) := by decide +kernel
theorem w_chr : ∀ k, k < 14 → ∀ i, i < kLen k → f_String_charAt k (zI (i : Int)) = some (kByt k i) := by decide +kernel
theorem w_ckb : ∀ k, k < 14 → ∀ i, i < kLen k → 0 ≤ (kByt k i).toInt ∧ (kByt k i).toInt < 65536 := by decide +kernel
theorem w_lenL : ∀ k, k < 14 → (zByt.getD k []).length = kLen k := by decide +kernel
theorem w_40 : ∀ k, k < 14 → kLen k < 40 := by decide +kernel
theorem ck_of {c : Int32} (h : 0 ≤ c.toInt ∧ c.toInt < 65536) : ck c := ⟨c.toInt, (Int32.ofInt_toInt c).symm, h.1, h.2⟩
def kW (k : Nat) : List Int32 := zByt.getD k []
theorem w_get {k i : Nat} (hk : k < 14) (hi : i < kLen k) : (kW k)[i]? = some (kByt k i) := by
  have h : i < (kW k).length := by unfold kW; rw [w_lenL k hk]; exact hi
  rw [List.getElem?_eq_getElem h]
  unfold kByt kW
  rw [List.getD_eq_getElem?_getD (i := i), List.getElem?_eq_getElem (show i < (zByt.getD k []).length from h)]
  rfl
theorem addWord_2 {n k : Nat} (hn : n < 1000000) (hk : k < 14) : ∀ (m fuel : Nat) (kept : Nat → Int32) (len : Int32) (l : List Int32) (i : Nat), rwL n kept len l → kLen k ≤ i + m → m < fuel → l.length + m < 900000 → i ≤ kLen k → ∃ k' l', f_Row_addWord_2 n k fuel kept len (zI (i : Int)) = some (k', l') ∧ rwL n k' l' (l ++ (kW k).drop i) := by
  have hL : (kW k).length = kLen k := w_lenL k hk
  have h40 := w_40 k hk
  intro m
  induction m with
  | zero =>
    intro fuel kept len l i h h1 h2 h3 h4
    obtain ⟨fu, rfl, -⟩ := fuelS h2
    rw [f_Row_addWord_2, w_len k hk]
    simp only [mm_b1]
    simp (disch := omega) only [zI_lit, zI_n, zI_add, zI_sub, zI_mul, zI_neg, zI_le, zI_lt, zI_eq, zI_nat]
    rw [if_pos (by omega), List.drop_eq_nil_of_le (by omega), List.append_nil]
    exact ⟨_, _, rfl, h⟩
  | succ m ih =>
    intro fuel kept len l i h h1 h2 h3 h4
    obtain ⟨fu, rfl, hfu⟩ := fuelS h2
    rw [f_Row_addWord_2, w_len k hk]
    simp only [mm_b1]
    by_cases hi : kLen k ≤ i
    · simp (disch := omega) only [zI_lit, zI_n, zI_add, zI_sub, zI_mul, zI_neg, zI_le, zI_lt, zI_eq, zI_nat]
      rw [if_pos (by omega), List.drop_eq_nil_of_le (by omega), List.append_nil]
      exact ⟨_, _, rfl, h⟩
    · have hi' : i < kLen k := by omega
      have hc : ck (kByt k i) := ck_of (w_ckb k hk i hi')
      obtain ⟨k1, l1, e1, r1⟩ := row_add hn h hc (by omega)
      rw [w_chr k hk i hi']
      simp (disch := omega) only [zI_lit, zI_n, zI_add, zI_sub, zI_mul, zI_neg, zI_le, zI_lt, zI_eq, zI_nat]
      rw [if_neg (by omega)]
      rw [e1]
      simp only [mm_b2]
      obtain ⟨k2, l2, e2, r2⟩ := ih fu k1 l1 (l ++ [kByt k i]) (i + 1) r1 (by omega) (by omega) (by rw [List.length_append]; simp; omega) (by omega)
      refine ⟨k2, l2, ?_, ?_⟩
      · rw [← e2]; congr 1
      · rw [List.drop_eq_getElem_cons (show i < (kW k).length by omega)]
        have hg := w_get hk hi'
        rw [List.getElem?_eq_getElem (show i < (kW k).length by omega)] at hg
        rw [Option.some.inj hg]
        rw [List.append_assoc] at r2
        exact r2
theorem row_addWord {n N k : Nat} {kept : Nat → Int32} {len : Int32} {l : List Int32} (hn : n < 1000000) (hk : k < 14) (h : rwL n kept len l) (hl : l.length < 400000) (hN : 1000000 < N) : ∃ k' l', f_Row_addWord N n kept len k = some (k', l') ∧ rwL n k' l' (l ++ kW k) := by
  have h40 := w_40 k hk
  unfold f_Row_addWord
  obtain ⟨k2, l2, e2, r2⟩ := addWord_2 hn hk (kLen k) N kept len l 0 h (by omega) (by omega) (by omega) (by omega)
  exact ⟨k2, l2, e2, r2⟩
theorem idx7_fuel {k : Nat} {a : Int32} {b : Int} (b1 : 0 ≤ b) (b2 : b < 100) : ∀ (m fuel fuel' : Nat) (i : Int), m < fuel → m < fuel' → b ≤ i + m → 0 ≤ i → i < 1000 → f_Latin_indexOfChar_7 k (zI b) fuel a (zI i) = f_Latin_indexOfChar_7 k (zI b) fuel' a (zI i) := by
  intro m
  induction m with
  | zero =>
    intro fuel fuel' i h1 h2 h3 h4 h5
    obtain ⟨fu, rfl, -⟩ := fuelS h1
    obtain ⟨fu', rfl, -⟩ := fuelS h2
    rw [f_Latin_indexOfChar_7, f_Latin_indexOfChar_7]
    simp (disch := omega) only [zI_lit, zI_n, zI_add, zI_sub, zI_mul, zI_neg, zI_le, zI_lt, zI_eq, zI_nat]
    rw [if_pos (by omega), if_pos (by omega)]
  | succ m ih =>
    intro fuel fuel' i h1 h2 h3 h4 h5
    obtain ⟨fu, rfl, q1⟩ := fuelS h1
    obtain ⟨fu', rfl, q2⟩ := fuelS h2
    by_cases hi : b ≤ i
    · rw [f_Latin_indexOfChar_7, f_Latin_indexOfChar_7]
      simp (disch := omega) only [zI_lit, zI_n, zI_add, zI_sub, zI_mul, zI_neg, zI_le, zI_lt, zI_eq, zI_nat]
      rw [if_pos (by omega), if_pos (by omega)]
    · rw [f_Latin_indexOfChar_7, f_Latin_indexOfChar_7]
      rw [show zI i + 1 = zI (i + 1) from zI_add i 1, ih fu fu' (i + 1) (by omega) (by omega) (by omega) (by omega) (by omega)]
theorem idx_fuel {N k : Nat} (hN : 40 ≤ N) (hk : k < 14) (ch : Int32) : f_String_indexOf N k ch = f_String_indexOf 40 k ch := by
  have h40 := w_40 k hk
  unfold f_String_indexOf f_String_indexOf_1
  rw [w_len k hk]
  unfold f_Latin_indexOf f_Latin_indexOfChar
  have e : ∀ x : Int32, f_Latin_indexOfChar_7 k (if nI (kLen k) < zI (kLen k : Int) then nI (kLen k) else zI (kLen k : Int)) N x (if (0 : Int32) < (0 : Int32) then (0 : Int32) else (0 : Int32)) = f_Latin_indexOfChar_7 k (if nI (kLen k) < zI (kLen k : Int) then nI (kLen k) else zI (kLen k : Int)) 40 x (if (0 : Int32) < (0 : Int32) then (0 : Int32) else (0 : Int32)) := by
    intro x
    rw [zI_n, ite_self, ite_self]
    exact idx7_fuel (by omega) (by omega) (kLen k) N 40 0 (by omega) (by omega) (by omega) (by omega) (by omega)
  simp only [mm_b1]
  rw [e]
def flg (ch : Int32) : Int32 := if ch = 45 then 1 else if ch = 35 then 2 else if ch = 43 then 4 else if ch = 48 then 8 else if ch = 44 then 16 else if ch = 40 then 32 else if ch = 60 then 64 else if ch = 32 then 128 else 0
theorem mo_flag (c : Int32) : f_Mo_flag c = some (flg c) := by
  unfold f_Mo_flag flg
  repeat' split
  all_goals rfl
def fchk (c : Nat) : Bool := match f_String_indexOf 40 0 (mm_c (zI (c : Int))) with
  | some r => decide ((0 ≤ r ∧ (1 : Int32) <<< (r &&& 31) = flg (zI (c : Int)) ∧ flg (zI (c : Int)) ≠ 0) ∨ (¬ 0 ≤ r ∧ flg (zI (c : Int)) = 0))
  | none => false
theorem fchk_ok : ∀ c, c < 256 → fchk c = true := by decide +kernel
theorem flag_idx {N : Nat} (hN : 40 ≤ N) {z : Int} (h1 : 0 ≤ z) (h2 : z < 256) : ∃ r, f_String_indexOf N 0 (mm_c (zI z)) = some r ∧ ((0 ≤ r ∧ (1 : Int32) <<< (r &&& 31) = flg (zI z) ∧ flg (zI z) ≠ 0) ∨ (¬ 0 ≤ r ∧ flg (zI z) = 0)) := by
  obtain ⟨c, rfl⟩ := Int.eq_ofNat_of_zero_le h1
  have h := fchk_ok c (by omega)
  rw [idx_fuel hN (by decide)]
  unfold fchk at h
  split at h
  · rename_i r hr
    exact ⟨r, hr, of_decide_eq_true h⟩
  · cases h
end PUwords
