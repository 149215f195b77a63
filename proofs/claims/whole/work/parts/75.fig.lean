section PUfig
def updN (E : Nat → Nat) (i v : Nat) : Nat → Nat := fun j => if j = i then v else E j
def eZ (E : Nat → Nat) (i : Int) : Nat := if i < 0 then 0 else E i.toNat
def dg (B M i : Nat) : Nat := M / B ^ i % B
theorem dg_0 {B M n i : Nat} (hB : 2 ≤ B) (h : M < B ^ n) (hi : n ≤ i) : dg B M i = 0 := by
  unfold dg
  rw [Nat.div_eq_of_lt (Nat.lt_of_lt_of_le h (Nat.pow_le_pow_right (by omega) hi)), Nat.zero_mod]
theorem dgB_lt {B M i : Nat} (hB : 2 ≤ B) : dg B M i < B := Nat.mod_lt _ (by omega)
theorem dg_top {B M i : Nat} (h1 : B ^ i ≤ M) (h2 : M < B ^ (i + 1)) (hB : 2 ≤ B) : dg B M i ≠ 0 := by
  unfold dg
  have hp : 0 < B ^ i := Nat.pow_pos (by omega)
  have h3 : M / B ^ i < B := Nat.div_lt_of_lt_mul (by rw [Nat.pow_succ] at h2; exact h2)
  rw [Nat.mod_eq_of_lt h3]
  have := Nat.div_pos h1 hp
  omega
theorem div_succ (B M i : Nat) : M / B ^ (i + 1) = M / B ^ i / B := by rw [Nat.pow_succ, Nat.div_div_eq_div_mul]
def CF (d : Nat → Int32) (count : Int32) (E : Nat → Nat) (n : Nat) : Prop := count = zI (n : Int) ∧ n ≤ 23 ∧ (∀ i, i < 24 → d i = zI (E i : Int)) ∧ (∀ i, n ≤ i → E i = 0) ∧ (∀ i, E i < 16) ∧ (n = 0 ∨ E (n - 1) ≠ 0)
theorem sg35 : ∀ v : Nat, v < 16 → f_Figures_sign_35 (zI (v : Int)) = some (kByt 6 v) := by decide +kernel
theorem sg34 : f_Figures_sign_34 = some (kByt 6 0) := by decide +kernel
theorem sgn {d : Nat → Int32} {c : Int32} {E : Nat → Nat} {n : Nat} (h : CF d c E n) {p s : Int} (p1 : -100000 ≤ p) (p2 : p ≤ 100000) (s1 : -100000 ≤ s) (s2 : s ≤ 100000) : f_Figures_sign 24 d c (zI s) (zI p) = some (kByt 6 (eZ E (p + s))) := by
  obtain ⟨rfl, hn, hd, h0, hE, -⟩ := h
  unfold f_Figures_sign eZ
  simp (disch := omega) only [zI_lit, zI_n, zI_add, zI_sub, zI_mul, zI_neg, zI_le, zI_lt, zI_eq, zI_nat]
  by_cases a : p + s < 0
  · rw [if_pos a, if_pos a]; exact sg34
  · rw [if_neg a, if_neg a]
    by_cases b : (n : Int) ≤ p + s
    · rw [if_pos b, h0 _ (by omega)]; exact sg34
    · rw [if_neg b, if_neg (by omega), if_neg (by omega), hd _ (by omega)]
      exact sg35 _ (hE _)
theorem forget_2 {ns : Int32} (cc ss : Int32) : ∀ (k fuel : Nat) (d : Nat → Int32) (i : Int), 0 ≤ i → 24 ≤ i + k → i ≤ 24 → k < fuel → f_Figures_forget_2 24 ns fuel d cc ss (zI i) = some (stR d i 24 0, 0, ns) := by
  intro k
  induction k with
  | zero =>
    intro fuel d i h1 h2 h3 h4
    obtain ⟨fu, rfl, -⟩ := fuelS h4
    rw [f_Figures_forget_2, if_pos (by rw [zI_lit, zI_le (by omega) (by omega) (by omega) (by omega)]; omega), stR_0 (by omega)]
  | succ k ih =>
    intro fuel d i h1 h2 h3 h4
    obtain ⟨fu, rfl, hfu⟩ := fuelS h4
    by_cases hi : 24 ≤ i
    · rw [f_Figures_forget_2, if_pos (by rw [zI_lit, zI_le (by omega) (by omega) (by omega) (by omega)]; omega), stR_0 (by omega)]
    · rw [f_Figures_forget_2, if_neg (by rw [zI_lit, zI_le (by omega) (by omega) (by omega) (by omega)]; omega), zI_nat (by omega) (by omega), if_neg (by rw [zI_lit, zI_lt (by omega) (by omega) (by omega) (by omega)]; omega), show zI i + 1 = zI (i + 1) from zI_add _ 1, ih fu _ (i + 1) (by omega) (by omega) (by omega) (by omega), stR_s (by omega) (by omega)]
theorem forget_ok {N : Nat} (hN : 1000000 < N) (d : Nat → Int32) (c s ns : Int32) : ∃ d', f_Figures_forget N 24 d c s ns = some (d', 0, ns) ∧ ∀ i, i < 24 → d' i = 0 := by
  unfold f_Figures_forget
  refine ⟨_, forget_2 c s 24 N d 0 (by omega) (by omega) (by omega) (by omega), fun i hi => ?_⟩
  unfold stR
  rw [if_pos (by omega)]
theorem takeDec_22 {M : Nat} (hM2 : M ≤ 9223372036854775808) (sc : Int32) : ∀ (k fuel i R : Nat) (d : Nat → Int32), M / 10 ^ i = R → R < 10 ^ k → i + k ≤ 23 → k < fuel → (∀ j, j < i → d j = zI (dg 10 M j : Int)) → (∀ j, i ≤ j → j < 24 → d j = 0) → (i = 0 ∨ 10 ^ (i - 1) ≤ M) → ∃ (d' : Nat → Int32) (n : Nat), f_Figures_takeDecimal_22 24 fuel d (zI (i : Int)) sc (zJ (-(R : Int))) (zI (i : Int)) = some (d', zI (n : Int), sc) ∧ CF d' (zI (n : Int)) (dg 10 M) n := by
  have hend : ∀ (fu i : Nat) (d : Nat → Int32), M / 10 ^ i = 0 → i ≤ 23 → (∀ j, j < i → d j = zI (dg 10 M j : Int)) → (∀ j, i ≤ j → j < 24 → d j = 0) → (i = 0 ∨ 10 ^ (i - 1) ≤ M) → ∃ (d' : Nat → Int32) (n : Nat), f_Figures_takeDecimal_22 24 (fu + 1) d (zI (i : Int)) sc (zJ (-((0 : Nat) : Int))) (zI (i : Int)) = some (d', zI (n : Int), sc) ∧ CF d' (zI (n : Int)) (dg 10 M) n := by
    intro fu i d h0 hi h1 h2 h3
    have hlt : M < 10 ^ i := by
      rcases Nat.div_eq_zero_iff.mp h0 with h | h
      · exact absurd h (Nat.ne_of_gt (Nat.pow_pos (by omega)))
      · exact h
    rw [f_Figures_takeDecimal_22, if_neg (by rw [zI_lit, zI_le (by omega) (by omega) (by omega) (by omega)]; omega), if_pos ((lg_cmp_eq (zJ (-((0 : Nat) : Int))) 0).mpr rfl)]
    refine ⟨d, i, rfl, rfl, hi, fun j hj => ?_, fun j hj => dg_0 (by omega) hlt hj, fun j => Nat.lt_of_lt_of_le (dgB_lt (by omega)) (by omega), ?_⟩
    · by_cases hji : j < i
      · exact h1 j hji
      · rw [h2 j (by omega) hj, dg_0 (by omega) hlt (by omega)]; rfl
    · rcases h3 with h | h
      · exact Or.inl h
      · by_cases hi0 : i = 0
        · exact Or.inl hi0
        · exact Or.inr (dg_top h (by rw [show i - 1 + 1 = i by omega]; exact hlt) (by omega))
  intro k
  induction k with
  | zero =>
    intro fuel i R d hR h0 h1 h2 h3 h4 h5
    obtain ⟨fu, rfl, -⟩ := fuelS h2
    have : R = 0 := by simpa using h0
    subst this
    exact hend fu i d hR (by omega) h3 h4 h5
  | succ k ih =>
    intro fuel i R d hR h0 h1 h2 h3 h4 h5
    obtain ⟨fu, rfl, hfu⟩ := fuelS h2
    by_cases hz : R = 0
    · subst hz
      exact hend fu i d hR (by omega) h3 h4 h5
    · have hRM : R ≤ M := by rw [← hR]; exact Nat.div_le_self _ _
      rw [f_Figures_takeDecimal_22, if_neg (by rw [zI_lit, zI_le (by omega) (by omega) (by omega) (by omega)]; omega), if_neg (fun q => by
        have q2 := (lg_cmp_eq _ _).mp q
        rw [zJ_lit, zJ_eq (by omega) (by omega) (by omega) (by omega)] at q2
        omega), zI_nat (by omega) (by omega), if_neg (by rw [zI_lit, zI_lt (by omega) (by omega) (by omega) (by omega)]; omega)]
      have e1 : zJ (-(R : Int)) / (10 : Int64) = zJ (-((R / 10 : Nat) : Int)) := by
        rw [zJ_lit, zJ_div (by omega) (by omega) (by omega) (by omega)]
        congr 1
        rw [Int.neg_tdiv]
        congr 1
      have e2 : (-(zJ (-(R : Int)) - zJ (-(R : Int)) / (10 : Int64) * (10 : Int64))).toInt32 = zI (dg 10 M i : Int) := by
        rw [e1, zJ_lit, zJ_mul, zJ_sub, zJ_neg]
        unfold dg
        rw [hR]
        rw [show -(-(R : Int) - -((R / 10 : Nat) : Int) * 10) = ((R % 10 : Nat) : Int) by omega]
        exact zJ_I (by omega) (by omega)
      rw [e2, e1, show zI (i : Int) + 1 = zI ((i : Int) + 1) from zI_add _ 1, cast1 i, show ((i : Int)).toNat = i by omega]
      have hi : 10 ^ i ≤ M := by
        by_cases q : 10 ^ i ≤ M
        · exact q
        · exact absurd (hR.symm.trans (Nat.div_eq_of_lt (by omega))) hz
      refine ih fu (i + 1) (R / 10) _ (by rw [div_succ, hR]) ?_ (by omega) (by omega) (fun j hj => ?_) (fun j hj hj2 => ?_) (Or.inr (by simpa using hi))
      · exact Nat.div_lt_of_lt_mul (by rw [Nat.pow_succ] at h0; omega)
      · by_cases hji : j = i
        · subst hji; rw [upd_same]
        · rw [upd_ne _ _ hji]; exact h3 j (by omega)
      · rw [upd_ne _ _ (by omega)]; exact h4 j (by omega) hj2
theorem takeDec {N : Nat} (hN : 1000000 < N) (d : Nat → Int32) (c s : Int32) (v : Int64) (ns : Int32) : ∃ (d' : Nat → Int32) (n : Nat), f_Figures_takeDecimal N 24 d c s v ns = some (d', zI (n : Int), ns) ∧ CF d' (zI (n : Int)) (dg 10 v.toInt.natAbs) n := by
  obtain ⟨d1, e1, h1⟩ := forget_ok hN d c s ns
  obtain ⟨z, rfl, z1, z2⟩ := zJ_of v
  rw [zJ_toInt z1 z2]
  have key := takeDec_22 (M := z.natAbs) (by omega) ns 20 N 0 z.natAbs d1 (by rw [Nat.pow_zero, Nat.div_one]) (by omega) (by omega) (by omega) (fun j hj => absurd hj (by omega)) (fun j _ hj => h1 j hj) (Or.inl rfl)
  obtain ⟨d', n, e2, h2⟩ := key
  refine ⟨d', n, ?_, h2⟩
  unfold f_Figures_takeDecimal
  rw [e1, b3s]
  by_cases hz : 0 ≤ z
  · rw [if_pos ((lg_cmp_ge _ _).mpr (by rw [zJ_lit, zJ_le (by omega) (by omega) (by omega) (by omega)]; exact hz)), zJ_neg, ← e2]
    rw [show ((z.natAbs : Nat) : Int) = z by omega]
    rfl
  · rw [if_neg (fun q => hz (by have q2 := (lg_cmp_ge _ _).mp q; rw [zJ_lit, zJ_le (by omega) (by omega) (by omega) (by omega)] at q2; exact q2)), ← e2]
    rw [show -((z.natAbs : Nat) : Int) = z by omega]
    rfl
def zbE (E : Nat → Nat) (d : Int) : Nat → Nat := fun j => if (j : Int) < d then 0 else E j
def incE : Nat → (Nat → Nat) → Nat → (Nat → Nat)
  | 0, E, _ => E
  | k + 1, E, i => if E i < 9 then updN E i (E i + 1) else incE k (updN E i 0) (i + 1)
def incT : Nat → (Nat → Nat) → Nat → Nat
  | 0, _, i => i
  | k + 1, E, i => if E i < 9 then i else incT k E (i + 1)
theorem updN_same (E : Nat → Nat) (i v : Nat) : updN E i v i = v := by simp [updN]
theorem updN_ne (E : Nat → Nat) {i j : Nat} (v : Nat) (h : j ≠ i) : updN E i v j = E j := by simp [updN, h]
theorem incT_congr : ∀ (k : Nat) (E F : Nat → Nat) (i : Nat), (∀ j, i ≤ j → E j = F j) → incT k E i = incT k F i := by
  intro k
  induction k with
  | zero => intro E F i h; rfl
  | succ k ih =>
    intro E F i h
    rw [incT, incT, h i (Nat.le_refl _), ih E F (i + 1) (fun j hj => h j (by omega))]
theorem incT_ge : ∀ (k : Nat) (E : Nat → Nat) (i : Nat), i ≤ incT k E i := by
  intro k
  induction k with
  | zero => intro E i; exact Nat.le_refl _
  | succ k ih =>
    intro E i
    rw [incT]
    split
    · exact Nat.le_refl _
    · have := ih E (i + 1); omega
theorem incT_le {n : Nat} : ∀ (k : Nat) (E : Nat → Nat) (i : Nat), (∀ j, n ≤ j → E j = 0) → n ≤ i + k → i ≤ n → incT (k + 1) E i ≤ n := by
  intro k
  induction k with
  | zero =>
    intro E i h h1 h2
    rw [incT, h i (by omega), if_pos (by omega)]
    omega
  | succ k ih =>
    intro E i h h1 h2
    rw [incT]
    split
    · exact h2
    · rename_i h3
      by_cases hi : i = n
      · rw [h i (by omega)] at h3; omega
      · exact ih E (i + 1) h (by omega) (by omega)
theorem incE_at {n : Nat} : ∀ (k : Nat) (E : Nat → Nat) (i : Nat), (∀ j, n ≤ j → E j = 0) → n ≤ i + k → i ≤ n → (∀ j, j < i → incE (k + 1) E i j = E j) ∧ (∀ j, incT (k + 1) E i < j → incE (k + 1) E i j = E j) ∧ incE (k + 1) E i (incT (k + 1) E i) = E (incT (k + 1) E i) + 1 ∧ (∀ j, i ≤ j → j < incT (k + 1) E i → incE (k + 1) E i j = 0) ∧ E (incT (k + 1) E i) < 9 := by
  intro k
  induction k with
  | zero =>
    intro E i h h1 h2
    have h0 : E i = 0 := h i (by omega)
    rw [incT, incE, h0, if_pos (by omega), if_pos (by omega)]
    refine ⟨fun j hj => updN_ne _ _ (by omega), fun j hj => updN_ne _ _ (by omega), by rw [updN_same, h0], fun j h3 h4 => absurd h4 (by omega), by omega⟩
  | succ k ih =>
    intro E i h h1 h2
    rw [incT, incE]
    by_cases h3 : E i < 9
    · rw [if_pos h3, if_pos h3]
      exact ⟨fun j hj => updN_ne _ _ (by omega), fun j hj => updN_ne _ _ (by omega), updN_same _ _ _, fun j h3 h4 => absurd h4 (by omega), h3⟩
    · rw [if_neg h3, if_neg h3]
      have hi : i ≠ n := by intro q; rw [h i (by omega)] at h3; omega
      have hc : incT (k + 1) (updN E i 0) (i + 1) = incT (k + 1) E (i + 1) := incT_congr _ _ _ _ (fun j hj => updN_ne _ _ (by omega))
      have g := ih (updN E i 0) (i + 1) (fun j hj => by rw [updN_ne _ _ (by omega)]; exact h j hj) (by omega) (by omega)
      rw [hc] at g
      have hge := incT_ge (k + 1) E (i + 1)
      obtain ⟨g1, g2, g3, g4, g5⟩ := g
      refine ⟨fun j hj => by rw [g1 j (by omega), updN_ne _ _ (by omega)], fun j hj => by rw [g2 j hj, updN_ne _ _ (by omega)], by rw [g3, updN_ne _ _ (by omega)], fun j h5 h6 => ?_, by rw [updN_ne _ _ (by omega)] at g5; exact g5⟩
      by_cases hji : j = i
      · subst hji; rw [g1 j (by omega), updN_same]
      · exact g4 j (by omega) h6
end PUfig
