section PUspread
theorem zJ_u (n : Nat) : zJ (n : Int) = (UInt64.ofNat n).toInt64 := by
  unfold zJ
  rw [Int64.ofInt_eq_ofNat]
  rfl
theorem zJ_un (x : Int64) : ∃ R : Nat, R < 18446744073709551616 ∧ x = zJ (R : Int) := by
  refine ⟨x.toUInt64.toNat, UInt64.toNat_lt _, ?_⟩
  rw [zJ_u, UInt64.ofNat_toNat]
  rfl
theorem lu_z {R : Nat} (hR : R < 18446744073709551616) {s : Nat} {y : Int32} (hy : (y.toInt64.toUInt64 &&& Int64.toUInt64 63) = UInt64.ofNat s) (hs : s < 64) : mm_lu (zJ (R : Int)) y = zJ ((R / 2 ^ s : Nat) : Int) := by
  unfold mm_lu
  rw [hy, zJ_u R, zJ_u]
  show ((UInt64.ofNat R) >>> UInt64.ofNat s).toInt64 = _
  congr 1
  apply UInt64.toNat_inj.mp
  have h1 : (UInt64.ofNat R).toNat = R := UInt64.toNat_ofNat_of_lt (by show R < 18446744073709551616; exact hR)
  have h2 : (UInt64.ofNat s).toNat = s := UInt64.toNat_ofNat_of_lt (by show s < 18446744073709551616; omega)
  have h3 : (UInt64.ofNat (R / 2 ^ s)).toNat = R / 2 ^ s := UInt64.toNat_ofNat_of_lt (by show R / 2 ^ s < 18446744073709551616; exact Nat.lt_of_le_of_lt (Nat.div_le_self _ _) hR)
  rw [UInt64.toNat_shiftRight, h1, h2, h3, Nat.mod_eq_of_lt hs, Nat.shiftRight_eq_div_pow]
theorem and_z {R : Nat} (hR : R < 18446744073709551616) {s : Nat} (hs : s < 32) : zJ (R : Int) &&& zJ ((2 ^ s - 1 : Nat) : Int) = zJ ((R % 2 ^ s : Nat) : Int) := by
  rw [zJ_u R, zJ_u, zJ_u]
  show (UInt64.ofNat R &&& UInt64.ofNat (2 ^ s - 1)).toInt64 = _
  congr 1
  have hp : 2 ^ s ≤ 2 ^ 32 := Nat.pow_le_pow_right (by omega) (by omega)
  apply UInt64.toNat_inj.mp
  have h1 : (UInt64.ofNat R).toNat = R := UInt64.toNat_ofNat_of_lt (by show R < 18446744073709551616; exact hR)
  have h2 : (UInt64.ofNat (2 ^ s - 1)).toNat = 2 ^ s - 1 := UInt64.toNat_ofNat_of_lt (by show 2 ^ s - 1 < 18446744073709551616; omega)
  have h3 : (UInt64.ofNat (R % 2 ^ s)).toNat = R % 2 ^ s := UInt64.toNat_ofNat_of_lt (by show R % 2 ^ s < 18446744073709551616; exact Nat.lt_of_le_of_lt (Nat.mod_le _ _) hR)
  rw [UInt64.toNat_and, h1, h2, h3, Nat.and_two_pow_sub_one_eq_mod]
def RF (F : Nat → Int32) (many : Int32) (E : Nat → Nat) (top : Int) (m : Nat) : Prop := many = zI (m : Int) ∧ m ≤ 60 ∧ (∀ k : Nat, k < m → F k = zI (eZ E (top - k) : Int)) ∧ (∀ i : Nat, (top < (i : Int) ∨ (i : Int) + m ≤ top) → E i = 0) ∧ (∀ i, E i < 16) ∧ -1 ≤ top ∧ top ≤ 100
theorem figAt {F : Nat → Int32} {many : Int32} {E : Nat → Nat} {top : Int} {m : Nat} (h : RF F many E top m) {k : Int} (k1 : -100000 ≤ k) (k2 : k ≤ 100000) : f_Mo_figureAt 64 F many (zI k) = some (zI (eZ E (top - k) : Int)) := by
  obtain ⟨rfl, hm, hF, h0, h16, t1, t2⟩ := h
  unfold f_Mo_figureAt
  simp (disch := omega) only [zI_lit, zI_n, zI_add, zI_sub, zI_mul, zI_neg, zI_le, zI_lt, zI_eq, zI_nat]
  by_cases a : k < 0
  · rw [if_pos a]
    unfold eZ
    rw [if_neg (by omega), h0 _ (by omega)]; rfl
  · rw [if_neg a]
    by_cases b : (m : Int) ≤ k
    · rw [if_pos b]
      unfold eZ
      by_cases c : top - k < 0
      · rw [if_pos c]; rfl
      · rw [if_neg c, h0 _ (by omega)]; rfl
    · rw [if_neg b, if_neg (by omega), hF k.toNat (by omega)]
      congr 4
      omega
theorem swap_110 {m : Nat} (hm : m ≤ 60) (F0 : Nat → Int32) (pt : Int32) : ∀ (k fuel : Nat) (F : Nat → Int32) (a : Nat), (m : Int) - 1 - a ≤ a + k → k < fuel → a ≤ m → (∀ j : Nat, j < m → F j = if j < a ∨ m - 1 - a < j then F0 (m - 1 - j) else F0 j) → (a ≤ m - 1 - a + 1) → 1 ≤ m → ∃ F' : Nat → Int32, f_Mo_spread_110 64 fuel F (zI (m : Int)) pt (zI (a : Int)) (zI ((m : Int) - 1 - a)) = some (F', zI (m : Int), zI (m : Int)) ∧ ∀ j : Nat, j < m → F' j = F0 (m - 1 - j) := by
  have hend : ∀ (fu : Nat) (F : Nat → Int32) (a : Nat), (m : Int) - 1 - a ≤ a → a ≤ m → (∀ j : Nat, j < m → F j = if j < a ∨ m - 1 - a < j then F0 (m - 1 - j) else F0 j) → (a ≤ m - 1 - a + 1) → 1 ≤ m → ∃ F' : Nat → Int32, f_Mo_spread_110 64 (fu + 1) F (zI (m : Int)) pt (zI (a : Int)) (zI ((m : Int) - 1 - a)) = some (F', zI (m : Int), zI (m : Int)) ∧ ∀ j : Nat, j < m → F' j = F0 (m - 1 - j) := by
    intro fu F a h1 h2 h3 h4 h5
    rw [f_Mo_spread_110, if_pos (by rw [zI_le (by omega) (by omega) (by omega) (by omega)]; omega)]
    refine ⟨F, rfl, fun j hj => ?_⟩
    rw [h3 j hj]
    by_cases q : j < a ∨ m - 1 - a < j
    · rw [if_pos q]
    · rw [if_neg q]; congr 1; omega
  intro k
  induction k with
  | zero =>
    intro fuel F a h1 h2 h3 h4 h5 h6
    obtain ⟨fu, rfl, -⟩ := fuelS h2
    exact hend fu F a (by omega) h3 h4 h5 h6
  | succ k ih =>
    intro fuel F a h1 h2 h3 h4 h5 h6
    obtain ⟨fu, rfl, hfu⟩ := fuelS h2
    by_cases q : (m : Int) - 1 - a ≤ a
    · exact hend fu F a q h3 h4 h5 h6
    · have g1 : ¬ (zI (a : Int) < 0 ∨ 64 ≤ a) := by rw [zI_lit, zI_lt (by omega) (by omega) (by omega) (by omega)]; omega
      have g2 : ¬ (zI ((m : Int) - 1 - a) < 0 ∨ 64 ≤ m - 1 - a) := by rw [zI_lit, zI_lt (by omega) (by omega) (by omega) (by omega)]; omega
      rw [f_Mo_spread_110, if_neg (by rw [zI_le (by omega) (by omega) (by omega) (by omega)]; omega), zI_nat (by omega) (by omega), zI_nat (by omega) (by omega), show ((a : Int)).toNat = a by omega, show ((m : Int) - 1 - a).toNat = m - 1 - a by omega, if_neg g1, if_neg g2, if_neg g1, if_neg g2, show zI (a : Int) + 1 = zI ((a : Int) + 1) from zI_add _ 1, cast1 a, show zI ((m : Int) - 1 - a) + -1 = zI ((m : Int) - 1 - ((a + 1 : Nat) : Int)) by rw [show (-1 : Int32) = zI (-1) from rfl, zI_add]; congr 1; omega]
      refine ih fu _ (a + 1) (by omega) (by omega) (by omega) (fun j hj => ?_) (by omega) h6
      have e1 := h4 a (by omega)
      rw [if_neg (by omega)] at e1
      have e2 := h4 (m - 1 - a) (by omega)
      rw [if_neg (by omega)] at e2
      by_cases q1 : j = m - 1 - a
      · subst q1
        rw [upd_same, if_pos (by omega), e1]; congr 1; omega
      · rw [upd_ne _ _ q1]
        by_cases q2 : j = a
        · subst q2
          rw [upd_same, if_pos (by omega), e2]
        · rw [upd_ne _ _ q2, h4 j hj]
          by_cases q3 : j < a ∨ m - 1 - a < j
          · rw [if_pos q3, if_pos (by omega)]
          · rw [if_neg q3, if_neg (by omega)]
theorem spr_half {R b : Nat} (hR : R < 18446744073709551616) (hb : b = 8 ∨ b = 10 ∨ b = 16) : ∃ y : Nat, y = R / b ∧ (zJ ((b : Nat) : Int) = 0 → False) ∧
    (if (lg_cmp (zJ (R : Int) - (((mm_lu (zJ (R : Int)) (1 : Int32)) / zJ ((b : Nat) : Int)) * (2 : Int64)) * zJ ((b : Nat) : Int)) (zJ ((b : Nat) : Int))) < 0 then (((mm_lu (zJ (R : Int)) (1 : Int32)) / zJ ((b : Nat) : Int)) * (2 : Int64)) else ((((mm_lu (zJ (R : Int)) (1 : Int32)) / zJ ((b : Nat) : Int)) * (2 : Int64)) + (1 : Int64))) = zJ (y : Int) ∧ (zJ (R : Int) - zJ (y : Int) * zJ ((b : Nat) : Int)).toInt32 = zI ((R % b : Nat) : Int) := by
  have h1 : mm_lu (zJ (R : Int)) (1 : Int32) = zJ ((R / 2 : Nat) : Int) := by
    rw [lu_z hR (s := 1) (by decide) (by omega), Nat.pow_one]
  rw [h1]
  have hq : R / 2 < 9223372036854775808 := by omega
  refine ⟨R / b, rfl, ?_, ?_, ?_⟩
  · intro h
    rw [show (0 : Int64) = zJ 0 from rfl, zJ_eq (by omega) (by omega) (by omega) (by omega)] at h
    omega
  · have hd : zJ ((R / 2 : Nat) : Int) / zJ ((b : Nat) : Int) = zJ ((R / 2 / b : Nat) : Int) := by
      rw [zJ_div (by omega) (by omega) (by omega) (by omega)]
      rfl
    rw [hd, zJ_lit, zJ_lit, zJ_mul, zJ_mul, zJ_sub, zJ_add]
    rcases hb with rfl | rfl | rfl
    · by_cases q : (R : Int) - ((R / 2 / 8 : Nat) : Int) * 2 * ((8 : Nat) : Int) < ((8 : Nat) : Int)
      · rw [if_pos ((lg_cmp_lt _ _).mpr (by rw [zJ_lt (by omega) (by omega) (by omega) (by omega)]; exact q))]
        congr 1; omega
      · rw [if_neg (fun c => q (by have c2 := (lg_cmp_lt _ _).mp c; rw [zJ_lt (by omega) (by omega) (by omega) (by omega)] at c2; exact c2))]
        congr 1; omega
    · by_cases q : (R : Int) - ((R / 2 / 10 : Nat) : Int) * 2 * ((10 : Nat) : Int) < ((10 : Nat) : Int)
      · rw [if_pos ((lg_cmp_lt _ _).mpr (by rw [zJ_lt (by omega) (by omega) (by omega) (by omega)]; exact q))]
        congr 1; omega
      · rw [if_neg (fun c => q (by have c2 := (lg_cmp_lt _ _).mp c; rw [zJ_lt (by omega) (by omega) (by omega) (by omega)] at c2; exact c2))]
        congr 1; omega
    · by_cases q : (R : Int) - ((R / 2 / 16 : Nat) : Int) * 2 * ((16 : Nat) : Int) < ((16 : Nat) : Int)
      · rw [if_pos ((lg_cmp_lt _ _).mpr (by rw [zJ_lt (by omega) (by omega) (by omega) (by omega)]; exact q))]
        congr 1; omega
      · rw [if_neg (fun c => q (by have c2 := (lg_cmp_lt _ _).mp c; rw [zJ_lt (by omega) (by omega) (by omega) (by omega)] at c2; exact c2))]
        congr 1; omega
  · rw [zJ_mul, zJ_sub]
    have e : (R : Int) - ((R / b : Nat) : Int) * (b : Int) = ((R % b : Nat) : Int) := by
      rcases hb with rfl | rfl | rfl <;> omega
    rw [e]
    have : R % b < 16 := by rcases hb with rfl | rfl | rfl <;> omega
    exact zJ_I (by omega) (by omega)
theorem spread_8ok {N b U : Nat} (hN : 1000000 < N) (hb : b = 8 ∨ b = 10 ∨ b = 16) (hU : U < 18446744073709551616) (pt : Int32) : ∀ (k fuel i R : Nat) (F : Nat → Int32), U / b ^ i = R → R < b ^ k → i + k ≤ 23 → k + 1 < fuel → (∀ j, j < i → F j = zI (dg b U j : Int)) → (i ≤ 1 ∨ b ^ (i - 1) ≤ U) → (k = 0 → 1 ≤ i) → ∃ (F' : Nat → Int32) (m : Nat), f_Mo_spread_8 N 64 (zI (b : Int)) fuel F (zI (i : Int)) pt (zJ (R : Int)) = some (F', zI (m : Int), zI (m : Int)) ∧ RF F' (zI (m : Int)) (dg b U) ((m : Int) - 1) m ∧ 1 ≤ m ∧ m ≤ 23 ∧ (m = 1 ∨ dg b U (m - 1) ≠ 0) := by
  have hb2 : 2 ≤ b := by omega
  have hend : ∀ (fu i : Nat) (F : Nat → Int32), U / b ^ i = 0 → 1 ≤ i → i ≤ 23 → (∀ j, j < i → F j = zI (dg b U j : Int)) → (i ≤ 1 ∨ b ^ (i - 1) ≤ U) → ∃ (F' : Nat → Int32) (m : Nat), f_Mo_spread_8 N 64 (zI (b : Int)) (fu + 1) F (zI (i : Int)) pt (zJ ((0 : Nat) : Int)) = some (F', zI (m : Int), zI (m : Int)) ∧ RF F' (zI (m : Int)) (dg b U) ((m : Int) - 1) m ∧ 1 ≤ m ∧ m ≤ 23 ∧ (m = 1 ∨ dg b U (m - 1) ≠ 0) := by
    intro fu i F h0 h1 h2 h3 h4
    have hlt : U < b ^ i := by
      rcases Nat.div_eq_zero_iff.mp h0 with h | h
      · exact absurd h (Nat.ne_of_gt (Nat.pow_pos (by omega)))
      · exact h
    rw [f_Mo_spread_8, if_pos ((lg_cmp_eq (zJ ((0 : Nat) : Int)) 0).mpr rfl), if_neg (by rw [zI_lit, zI_eq (by omega) (by omega) (by omega) (by omega)]; omega)]
    obtain ⟨F', e1, e2⟩ := swap_110 (m := i) (by omega) F pt i N F 0 (by omega) (by omega) (by omega) (fun j hj => by rw [if_neg (by omega)]) (by omega) h1
    refine ⟨F', i, ?_, ⟨rfl, by omega, fun k hk => ?_, fun j hj => dg_0 hb2 hlt (by omega), fun j => Nat.lt_of_lt_of_le (dgB_lt hb2) (by omega), by omega, by omega⟩, h1, h2, ?_⟩
    · rw [show ((i : Int) - 1 - ((0 : Nat) : Int)) = (i : Int) - 1 by omega] at e1
      rw [show zI (i : Int) - 1 = zI ((i : Int) - 1) from zI_sub _ 1]
      exact e1
    · rw [e2 k hk, h3 _ (by omega)]
      unfold eZ
      rw [if_neg (by omega)]
      congr 3; omega
    · rcases h4 with h | h
      · exact Or.inl (by omega)
      · exact Or.inr (dg_top h (by rw [show i - 1 + 1 = i by omega]; exact hlt) hb2)
  have hstep : ∀ (fu i R : Nat) (F : Nat → Int32), U / b ^ i = R → i ≤ 22 → (R ≠ 0 ∨ i = 0) → f_Mo_spread_8 N 64 (zI (b : Int)) (fu + 1) F (zI (i : Int)) pt (zJ (R : Int)) = f_Mo_spread_8 N 64 (zI (b : Int)) fu (upd F i (zI (dg b U i : Int))) (zI ((i + 1 : Nat) : Int)) pt (zJ ((R / b : Nat) : Int)) := by
    intro fu i R F hR hi hor
    have hRU : R ≤ U := by rw [← hR]; exact Nat.div_le_self _ _
    obtain ⟨y, hy, hz, hite, hdig⟩ := spr_half (R := R) (b := b) (by omega) hb
    subst hy
    have hba : (zI (b : Int)).toInt64 = zJ (b : Int) := zI_J (by omega) (by omega)
    have e22 : f_Mo_spread_22 64 (zI (b : Int)) (f_Mo_spread_8 N 64 (zI (b : Int)) fu) F (zI (i : Int)) pt (zJ (R : Int)) = f_Mo_spread_8 N 64 (zI (b : Int)) fu (upd F i (zI (dg b U i : Int))) (zI ((i + 1 : Nat) : Int)) pt (zJ ((R / b : Nat) : Int)) := by
      unfold f_Mo_spread_22
      rw [hba, if_neg hz, ← apply_ite, hite]
      unfold f_Mo_spread_62
      rw [hba, hdig, zI_nat (by omega) (by omega), show ((i : Int)).toNat = i by omega, if_neg (by rw [zI_lit, zI_lt (by omega) (by omega) (by omega) (by omega)]; omega), show zI (i : Int) + 1 = zI ((i : Int) + 1) from zI_add _ 1, cast1 i]
      unfold dg
      rw [hR]
    rw [f_Mo_spread_8]
    by_cases q : lg_cmp (zJ (R : Int)) 0 = 0
    · rw [if_pos q]
      have hR0 : i = 0 := by
        rcases hor with h | h
        · exfalso
          have q2 := (lg_cmp_eq _ _).mp q
          obtain ⟨R', hR', hx⟩ : ∃ R', R' = R ∧ R' < 18446744073709551616 := ⟨R, rfl, by omega⟩
          have : (UInt64.ofNat R).toNat = 0 := by
            rw [zJ_u] at q2
            have q3 : (UInt64.ofNat R).toInt64.toUInt64 = (0 : Int64).toUInt64 := by rw [q2]
            have q4 : UInt64.ofNat R = 0 := q3
            rw [q4]; rfl
          have h9 : (UInt64.ofNat R).toNat = R := UInt64.toNat_ofNat_of_lt (by show R < 18446744073709551616; omega)
          rw [h9] at this
          exact h this
        · exact h
      rw [if_pos (by rw [hR0]; rfl)]
      exact e22
    · rw [if_neg q]
      exact e22
  intro k
  induction k with
  | zero =>
    intro fuel i R F hR h0 h1 h2 h3 h4 h5
    obtain ⟨fu, rfl, -⟩ := fuelS (Nat.lt_of_succ_lt h2)
    have : R = 0 := by simpa using h0
    subst this
    exact hend fu i F hR (h5 rfl) (by omega) h3 h4
  | succ k ih =>
    intro fuel i R F hR h0 h1 h2 h3 h4 h5
    obtain ⟨fu, rfl, hfu⟩ := fuelS (Nat.lt_of_succ_lt h2)
    by_cases hz : R = 0 ∧ 1 ≤ i
    · obtain ⟨rfl, hi⟩ := hz
      exact hend fu i F hR hi (by omega) h3 h4
    · rw [hstep fu i R F hR (by omega) (by omega)]
      refine ih fu (i + 1) (R / b) _ (by rw [div_succ, hR]) ?_ (by omega) (by omega) (fun j hj => ?_) ?_ (fun _ => by omega)
      · exact Nat.div_lt_of_lt_mul (by rw [Nat.pow_succ, Nat.mul_comm] at h0; exact h0)
      · by_cases q : j = i
        · subst q; rw [upd_same]
        · rw [upd_ne _ _ q]; exact h3 j (by omega)
      · by_cases q : i = 0
        · exact Or.inl (by omega)
        · refine Or.inr ?_
          rw [Nat.add_sub_cancel]
          by_cases q2 : b ^ i ≤ U
          · exact q2
          · exact absurd ⟨hR.symm.trans (Nat.div_eq_of_lt (by omega)), by omega⟩ hz
theorem spread_ok {N b U : Nat} (hN : 1000000 < N) (hb : b = 8 ∨ b = 10 ∨ b = 16) (hU : U < 18446744073709551616) (F : Nat → Int32) (pt : Int32) : ∃ (F' : Nat → Int32) (m : Nat), f_Mo_spread N 64 F pt (zJ (U : Int)) (zI (b : Int)) = some (F', zI (m : Int), zI (m : Int)) ∧ RF F' (zI (m : Int)) (dg b U) ((m : Int) - 1) m ∧ 1 ≤ m ∧ m ≤ 23 ∧ (m = 1 ∨ dg b U (m - 1) ≠ 0) := by
  unfold f_Mo_spread
  have hp : U < b ^ 22 := by
    rcases hb with rfl | rfl | rfl
    · exact Nat.lt_trans hU (by decide)
    · exact Nat.lt_trans hU (by decide)
    · exact Nat.lt_trans hU (by decide)
  exact spread_8ok hN hb hU pt 22 N 0 U F (by rw [Nat.pow_zero, Nat.div_one]) hp (by omega) (by omega) (fun j hj => absurd hj (by omega)) (Or.inl (by omega)) (fun h => absurd h (by omega))
end PUspread
