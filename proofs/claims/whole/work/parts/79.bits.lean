section PUbits
theorem takeBits_35 {U b s : Nat} (hU : U < 18446744073709551616) (hb : b = 2 ^ s) (hs : s = 3 ∨ s = 4) (sc bd : Int32) (hbd : (bd.toInt64.toUInt64 &&& Int64.toUInt64 63) = UInt64.ofNat s) : ∀ (k fuel i R : Nat) (d : Nat → Int32), U / b ^ i = R → R < b ^ k → i + k ≤ 23 → k < fuel → (∀ j, j < i → d j = zI (dg b U j : Int)) → (∀ j, i ≤ j → j < 24 → d j = 0) → (i = 0 ∨ b ^ (i - 1) ≤ U) → ∃ (d' : Nat → Int32) (n : Nat), f_Figures_takeBits_35 24 bd fuel d (zI (i : Int)) sc (zJ (R : Int)) (zJ ((2 ^ s - 1 : Nat) : Int)) (zI (i : Int)) = some (d', zI (n : Int), sc) ∧ CF d' (zI (n : Int)) (dg b U) n := by
  subst hb
  have hb2 : 2 ≤ 2 ^ s ∧ 2 ^ s ≤ 16 := by rcases hs with rfl | rfl <;> decide
  generalize hbb : 2 ^ s = b at *
  have hend : ∀ (fu i : Nat) (d : Nat → Int32), U / b ^ i = 0 → i ≤ 23 → (∀ j, j < i → d j = zI (dg b U j : Int)) → (∀ j, i ≤ j → j < 24 → d j = 0) → (i = 0 ∨ b ^ (i - 1) ≤ U) → ∃ (d' : Nat → Int32) (n : Nat), f_Figures_takeBits_35 24 bd (fu + 1) d (zI (i : Int)) sc (zJ ((0 : Nat) : Int)) (zJ ((b - 1 : Nat) : Int)) (zI (i : Int)) = some (d', zI (n : Int), sc) ∧ CF d' (zI (n : Int)) (dg b U) n := by
    intro fu i d h0 hi h1 h2 h3
    have hlt : U < b ^ i := by
      rcases Nat.div_eq_zero_iff.mp h0 with h | h
      · exact absurd h (Nat.ne_of_gt (Nat.pow_pos (by omega)))
      · exact h
    rw [f_Figures_takeBits_35, if_neg (by rw [zI_lit, zI_le (by omega) (by omega) (by omega) (by omega)]; omega), if_pos ((lg_cmp_eq (zJ ((0 : Nat) : Int)) 0).mpr rfl)]
    refine ⟨d, i, rfl, rfl, hi, fun j hj => ?_, fun j hj => dg_0 hb2.1 hlt hj, fun j => Nat.lt_of_lt_of_le (dgB_lt hb2.1) hb2.2, ?_⟩
    · by_cases hji : j < i
      · exact h1 j hji
      · rw [h2 j (by omega) hj, dg_0 hb2.1 hlt (by omega)]; rfl
    · rcases h3 with h | h
      · exact Or.inl h
      · by_cases hi0 : i = 0
        · exact Or.inl hi0
        · exact Or.inr (dg_top h (by rw [show i - 1 + 1 = i by omega]; exact hlt) hb2.1)
  intro k
  induction k with
  | zero =>
    intro fuel i R d hR h0 h1 h2 h3 h4 h5
    obtain ⟨fu, rfl, -⟩ := fuelS h2
    have : R = 0 := by simpa using h0
    subst this
    exact hend fu i d hR (by omega) h3 h4 h5
  | succ k ih =>
    intro fuel i R d hR h0 h1 h2 h3 h4 h5
    obtain ⟨fu, rfl, hfu⟩ := fuelS h2
    by_cases hz : R = 0
    · subst hz
      exact hend fu i d hR (by omega) h3 h4 h5
    · have hRU : R ≤ U := by rw [← hR]; exact Nat.div_le_self _ _
      have hnz : ¬ lg_cmp (zJ (R : Int)) 0 = 0 := by
        intro q
        have q2 := (lg_cmp_eq _ _).mp q
        have h9 : (UInt64.ofNat R).toNat = R := UInt64.toNat_ofNat_of_lt (by show R < 18446744073709551616; omega)
        rw [zJ_u] at q2
        have q3 : (UInt64.ofNat R).toInt64.toUInt64 = (0 : Int64).toUInt64 := by rw [q2]
        have q4 : UInt64.ofNat R = 0 := q3
        rw [q4] at h9
        exact hz h9.symm
      have hmod : R % b < 16 := Nat.lt_of_lt_of_le (Nat.mod_lt _ (by omega)) hb2.2
      rw [f_Figures_takeBits_35, if_neg (by rw [zI_lit, zI_le (by omega) (by omega) (by omega) (by omega)]; omega), if_neg hnz, zI_nat (by omega) (by omega), if_neg (by rw [zI_lit, zI_lt (by omega) (by omega) (by omega) (by omega)]; omega), show zJ (R : Int) &&& zJ ((b - 1 : Nat) : Int) = zJ ((R % b : Nat) : Int) by rw [← hbb]; exact and_z (by omega) (by omega), zJ_I (by omega) (by omega), show mm_lu (zJ (R : Int)) bd = zJ ((R / b : Nat) : Int) by rw [← hbb]; exact lu_z (by omega) hbd (by omega), show zI (i : Int) + 1 = zI ((i : Int) + 1) from zI_add _ 1, cast1 i, show ((i : Int)).toNat = i by omega]
      have hi : b ^ i ≤ U := by
        by_cases q : b ^ i ≤ U
        · exact q
        · exact absurd (hR.symm.trans (Nat.div_eq_of_lt (by omega))) hz
      refine ih fu (i + 1) (R / b) _ (by rw [div_succ, hR]) ?_ (by omega) (by omega) (fun j hj => ?_) (fun j hj hj2 => ?_) (Or.inr (by simpa using hi))
      · exact Nat.div_lt_of_lt_mul (by rw [Nat.pow_succ, Nat.mul_comm] at h0; exact h0)
      · by_cases hji : j = i
        · subst hji; rw [upd_same]; unfold dg; rw [hR]
        · rw [upd_ne _ _ hji]; exact h3 j (by omega)
      · rw [upd_ne _ _ (by omega)]; exact h4 j (by omega) hj2
theorem takeBits_ok {N : Nat} (hN : 1000000 < N) (d : Nat → Int32) (c sc : Int32) (v : Int64) (bits bd : Int32) {U b s : Nat} (hU : U < 18446744073709551616) (hv : (if (64 : Int32) ≤ bits then v else v &&& ((mm_ll (1 : Int64) bits) - (1 : Int64))) = zJ (U : Int)) (hb : b = 2 ^ s) (hs : s = 3 ∧ bd = 3 ∨ s = 4 ∧ bd = 4) :
    ∃ (d' : Nat → Int32) (n : Nat), f_Figures_takeBits N 24 d c sc v bits bd = some (d', zI (n : Int), 0) ∧ CF d' (zI (n : Int)) (dg b U) n := by
  obtain ⟨d1, e1, h1⟩ := forget_ok hN d c sc 0
  unfold f_Figures_takeBits f_Figures_takeBits_22
  rw [e1, b3s]
  have hmask : mm_ll (1 : Int64) bd - (1 : Int64) = zJ ((2 ^ s - 1 : Nat) : Int) := by
    rcases hs with ⟨rfl, rfl⟩ | ⟨rfl, rfl⟩ <;> decide
  have hbd : (bd.toInt64.toUInt64 &&& Int64.toUInt64 63) = UInt64.ofNat s := by
    rcases hs with ⟨rfl, rfl⟩ | ⟨rfl, rfl⟩ <;> decide
  have hp : U < b ^ 22 := by
    rcases hs with ⟨rfl, rfl⟩ | ⟨rfl, rfl⟩ <;> (rw [hb]; exact Nat.lt_trans hU (by decide))
  have key := takeBits_35 hU hb (by omega) (0 : Int32) bd hbd 22 N 0 U d1 (by rw [Nat.pow_zero, Nat.div_one]) hp (by omega) (by omega) (fun j hj => absurd hj (by omega)) (fun j _ hj => h1 j hj) (Or.inl rfl)
  rw [hmask]
  by_cases q : (64 : Int32) ≤ bits
  · rw [if_pos q] at hv ⊢
    rw [hv]; exact key
  · rw [if_neg q] at hv ⊢
    rw [hv]; exact key
theorem isZ_4 {m : Nat} (hm : m ≤ 60) {F : Nat → Int32} : ∀ (k fuel j : Nat) (x : Int32), j + k = m → k < fuel → (x = 0 ∨ x = 1) → (x = 1 → (∀ i, j ≤ i → i < m → F i = 0) → f_Mo_isZero_4 64 F (zI (m : Int)) fuel x (zI (j : Int)) = some 1) ∧ ((x = 0 ∨ ∃ i, j ≤ i ∧ i < m ∧ F i ≠ 0) → f_Mo_isZero_4 64 F (zI (m : Int)) fuel x (zI (j : Int)) = some 0) := by
  intro k
  induction k with
  | zero =>
    intro fuel j x h1 h2 h3
    obtain ⟨fu, rfl, -⟩ := fuelS h2
    rw [f_Mo_isZero_4, if_pos (by rw [zI_le (by omega) (by omega) (by omega) (by omega)]; omega), if_pos h3]
    refine ⟨fun h _ => by rw [h], fun h => ?_⟩
    rcases h with h | ⟨i, i1, i2, -⟩
    · rw [h]
    · omega
  | succ k ih =>
    intro fuel j x h1 h2 h3
    obtain ⟨fu, rfl, hfu⟩ := fuelS h2
    rw [f_Mo_isZero_4, if_neg (by rw [zI_le (by omega) (by omega) (by omega) (by omega)]; omega), show zI (j : Int) + 1 = zI ((j : Int) + 1) from zI_add _ 1, cast1 j, zI_nat (by omega) (by omega), show ((j : Int)).toNat = j by omega, if_neg (show ¬ (zI (j : Int) < 0 ∨ 64 ≤ j) by rw [zI_lit, zI_lt (by omega) (by omega) (by omega) (by omega)]; omega)]
    have i0 := ih fu (j + 1) 0 (by omega) (by omega) (Or.inl rfl)
    have i1 := ih fu (j + 1) 1 (by omega) (by omega) (Or.inr rfl)
    rcases h3 with rfl | rfl
    · rw [if_pos rfl]
      exact ⟨fun h => absurd h (by decide), fun _ => i0.2 (Or.inl rfl)⟩
    · rw [if_neg n10]
      by_cases q : F j = 0
      · rw [if_pos q]
        refine ⟨fun _ h => i1.1 rfl (fun i h5 h6 => h i (by omega) h6), fun h => i1.2 ?_⟩
        rcases h with h | ⟨i, a1, a2, a3⟩
        · exact absurd h (by decide)
        · refine Or.inr ⟨i, ?_, a2, a3⟩
          by_cases e : i = j
          · subst e; exact absurd q a3
          · omega
      · rw [if_neg q]
        exact ⟨fun _ h => absurd (h j (Nat.le_refl _) (by omega)) q, fun _ => i0.2 (Or.inl rfl)⟩
theorem isZ_ok {N : Nat} (hN : 1000000 < N) {F : Nat → Int32} {many : Int32} {E : Nat → Nat} {top : Int} {m : Nat} (h : RF F many E top m) : ((∀ i, E i = 0) → f_Mo_isZero N 64 F many = some 1) ∧ ((∃ i, E i ≠ 0) → f_Mo_isZero N 64 F many = some 0) := by
  obtain ⟨rfl, hm, hF, h0, h16, t1, t2⟩ := h
  unfold f_Mo_isZero
  have g := isZ_4 hm (F := F) m N 0 1 (by omega) (by omega) (Or.inr rfl)
  refine ⟨fun hz => g.1 rfl (fun i _ hi => ?_), fun ⟨i, hi⟩ => g.2 (Or.inr ⟨(top - i).toNat, by omega, ?_, ?_⟩)⟩
  · rw [hF i hi]
    unfold eZ
    split
    · rfl
    · rw [hz]; rfl
  · by_cases q : (i : Int) + m ≤ top
    · exact absurd (h0 i (Or.inr q)) hi
    · by_cases q2 : top < (i : Int)
      · exact absurd (h0 i (Or.inl q2)) hi
      · omega
  · have hti : (i : Int) ≤ top := by
      by_cases q2 : top < (i : Int)
      · exact absurd (h0 i (Or.inl q2)) hi
      · omega
    have hk : (top - i).toNat < m := by
      by_cases q : (i : Int) + m ≤ top
      · exact absurd (h0 i (Or.inr q)) hi
      · omega
    rw [hF _ hk]
    unfold eZ
    rw [if_neg (by omega), show (top - ((top - i).toNat : Int)).toNat = i by omega]
    have := h16 i
    rw [zI_lit, Ne, zI_eq (by omega) (by omega) (by omega) (by omega)]
    omega
end PUbits
