section PUround
theorem countUp_6 {n : Nat} (hn : n ≤ 22) {cn : Nat} (hcn : cn ≤ 23) : ∀ (k fuel i : Nat) (d : Nat → Int32) (E : Nat → Nat), (∀ j, j < 24 → d j = zI (E j : Int)) → (∀ j, n ≤ j → E j = 0) → (∀ j, E j < 10) → n ≤ i + k → i ≤ n → k < fuel → ∃ d' : Nat → Int32, f_Figures_countUpFrom_6 24 fuel d (zI (cn : Int)) (zI (i : Int)) = some (d', zI ((max cn (incT (k + 1) E i + 1) : Nat) : Int)) ∧ ∀ j, j < 24 → d' j = zI (incE (k + 1) E i j : Int) := by
  have hstop : ∀ (fu i : Nat) (d : Nat → Int32) (E : Nat → Nat) (k : Nat), (∀ j, j < 24 → d j = zI (E j : Int)) → i ≤ 22 → E i < 9 → ∃ d' : Nat → Int32, f_Figures_countUpFrom_6 24 (fu + 1) d (zI (cn : Int)) (zI (i : Int)) = some (d', zI ((max cn (incT (k + 1) E i + 1) : Nat) : Int)) ∧ ∀ j, j < 24 → d' j = zI (incE (k + 1) E i j : Int) := by
    intro fu i d E k hd hi h9
    have hg : ¬ (zI (i : Int) < 0 ∨ 24 ≤ i) := by rw [zI_lit, zI_lt (by omega) (by omega) (by omega) (by omega)]; omega
    rw [f_Figures_countUpFrom_6, if_neg (by rw [zI_lit, zI_le (by omega) (by omega) (by omega) (by omega)]; omega), zI_nat (by omega) (by omega), show ((i : Int)).toNat = i by omega, if_neg hg, hd i (by omega), if_neg (by rw [zI_lit, zI_le (by omega) (by omega) (by omega) (by omega)]; omega), if_neg hg, if_neg hg, incT, if_pos h9]
    refine ⟨upd d i (zI (E i : Int) + 1), ?_, fun j hj => ?_⟩
    · congr 2
      rw [show zI (i : Int) + 1 = zI ((i : Int) + 1) from zI_add _ 1]
      by_cases q : cn < i + 1
      · rw [if_pos (by rw [zI_lt (by omega) (by omega) (by omega) (by omega)]; omega), Nat.max_eq_right (by omega)]; rfl
      · rw [if_neg (by rw [zI_lt (by omega) (by omega) (by omega) (by omega)]; omega), Nat.max_eq_left (by omega)]
    · rw [incE, if_pos h9]
      by_cases q : j = i
      · subst q; rw [upd_same, updN_same]; exact zI_add _ 1
      · rw [upd_ne _ _ q, updN_ne _ _ q]; exact hd j hj
  intro k
  induction k with
  | zero =>
    intro fuel i d E hd h0 h10 h1 h2 h3
    obtain ⟨fu, rfl, -⟩ := fuelS h3
    exact hstop fu i d E 0 hd (by omega) (by rw [h0 i (by omega)]; omega)
  | succ k ih =>
    intro fuel i d E hd h0 h10 h1 h2 h3
    obtain ⟨fu, rfl, hfu⟩ := fuelS h3
    by_cases h9 : E i < 9
    · exact hstop fu i d E (k + 1) hd (by omega) h9
    · have hin : i ≠ n := by intro q; rw [h0 i (by omega)] at h9; omega
      have hg : ¬ (zI (i : Int) < 0 ∨ 24 ≤ i) := by rw [zI_lit, zI_lt (by omega) (by omega) (by omega) (by omega)]; omega
      have h11 := h10 i
      rw [f_Figures_countUpFrom_6, if_neg (by rw [zI_lit, zI_le (by omega) (by omega) (by omega) (by omega)]; omega), zI_nat (by omega) (by omega), show ((i : Int)).toNat = i by omega, if_neg hg, hd i (by omega), if_pos (by rw [zI_lit, zI_le (by omega) (by omega) (by omega) (by omega)]; omega), if_neg hg, show zI (i : Int) + 1 = zI ((i : Int) + 1) from zI_add _ 1, cast1 i]
      obtain ⟨d', e1, r1⟩ := ih fu (i + 1) (upd d i 0) (updN E i 0) (fun j hj => by
        by_cases q : j = i
        · subst q; rw [upd_same, updN_same]; rfl
        · rw [upd_ne _ _ q, updN_ne _ _ q]; exact hd j hj) (fun j hj => by rw [updN_ne _ _ (by omega)]; exact h0 j hj) (fun j => by
        by_cases q : j = i
        · subst q; rw [updN_same]; omega
        · rw [updN_ne _ _ q]; exact h10 j) (by omega) (by omega) (by omega)
      refine ⟨d', ?_, fun j hj => ?_⟩
      · rw [e1, incT_congr (k + 1) (updN E i 0) E (i + 1) (fun j hj => updN_ne _ _ (by omega)), show incT (k + 1 + 1) E i = incT (k + 1) E (i + 1) from by rw [incT, if_neg h9]]
      · rw [r1 j hj, show incE (k + 1 + 1) E i = incE (k + 1) (updN E i 0) (i + 1) from by rw [incE, if_neg h9]]
def upE (E : Nat → Nat) (n : Nat) (D : Int) : Prop := D ≤ (n : Int) ∧ 5 ≤ E (D - 1).toNat
theorem upE_dec (E : Nat → Nat) (n : Nat) (D : Int) : upE E n D ∨ ¬ upE E n D := Classical.em _
noncomputable def rndE (E : Nat → Nat) (n : Nat) (D : Int) : Nat → Nat := if D ≤ 0 then E else if D ≤ (n : Int) ∧ 5 ≤ E (D - 1).toNat then incE 31 (zbE E D) D.toNat else zbE E D
noncomputable def rndN (E : Nat → Nat) (n : Nat) (D : Int) : Nat := if D ≤ 0 then n else if D ≤ (n : Int) ∧ 5 ≤ E (D - 1).toNat then max n (incT 31 (zbE E D) D.toNat + 1) else if (n : Int) ≤ D then 0 else n
theorem round_55 {N : Nat} {cn : Int32} {x2 x3 : Int32} : ∀ (k fuel : Nat) (d : Nat → Int32) (i e : Int), 0 ≤ i → e ≤ 24 → e ≤ i + k → i ≤ 24 → 0 ≤ e → k < fuel → f_Figures_roundTo_55 N 24 fuel d cn x2 x3 (zI e) (zI i) = (if x3 = 0 then (if x2 < cn then some (stR d i e 0, cn) else some (stR d i e 0, (0 : Int32))) else mm_b2 (f_Figures_countUpFrom N 24 (stR d i e 0) cn x2) (fun o_1 o_2 => some (o_1, o_2))) := by
  intro k
  induction k with
  | zero =>
    intro fuel d i e h0 h1 h2 h3 h5 h4
    obtain ⟨fu, rfl, -⟩ := fuelS h4
    rw [f_Figures_roundTo_55, if_pos (by rw [zI_le (by omega) (by omega) (by omega) (by omega)]; omega), stR_0 (by omega)]
  | succ k ih =>
    intro fuel d i e h0 h1 h2 h3 h5 h4
    obtain ⟨fu, rfl, hfu⟩ := fuelS h4
    by_cases hi : e ≤ i
    · rw [f_Figures_roundTo_55, if_pos (by rw [zI_le (by omega) (by omega) (by omega) (by omega)]; omega), stR_0 (by omega)]
    · rw [f_Figures_roundTo_55, if_neg (by rw [zI_le (by omega) (by omega) (by omega) (by omega)]; omega), zI_nat (by omega) (by omega), if_neg (by rw [zI_lit, zI_lt (by omega) (by omega) (by omega) (by omega)]; omega), show zI i + 1 = zI (i + 1) from zI_add _ 1, ih fu _ (i + 1) e (by omega) (by omega) (by omega) (by omega) h5 (by omega), stR_s (by omega) (by omega)]
theorem zbE_0 {E : Nat → Nat} {n : Nat} (h : ∀ j, n ≤ j → E j = 0) (D : Int) : ∀ j, n ≤ j → zbE E D j = 0 := by
  intro j hj
  unfold zbE
  split
  · rfl
  · exact h j hj
theorem zbE_lt {E : Nat → Nat} (h : ∀ j, E j < 10) (D : Int) : ∀ j, zbE E D j < 10 := by
  intro j
  unfold zbE
  split
  · omega
  · exact h j
theorem incE_lt {n : Nat} {E : Nat → Nat} {i : Nat} (h : ∀ j, n ≤ j → E j = 0) (hi : i ≤ n) (hn : n ≤ 22) (h10 : ∀ j, E j < 10) : ∀ j, incE 31 E i j < 10 := by
  intro j
  have G := incE_at 30 E i h (by omega) hi
  simp only [Nat.reduceAdd] at G
  obtain ⟨g1, g2, g3, g4, g5⟩ := G
  by_cases a : j < i
  · rw [g1 j a]; exact h10 j
  · by_cases b : incT 31 E i < j
    · rw [g2 j b]; exact h10 j
    · by_cases c : j = incT 31 E i
      · subst c; rw [g3]; omega
      · rw [g4 j (by omega) (by omega)]; omega
theorem rnd_class {N : Nat} (hN : 1000000 < N) {d : Nat → Int32} {c : Int32} {E : Nat → Nat} {n : Nat} (h : CF d c E n) (h10 : ∀ j, E j < 10) (hn : n ≤ 22) {p s : Int} (p1 : -100000 ≤ p) (p2 : p ≤ 100000) (s1 : -100000 ≤ s) (s2 : s ≤ 100000) : ∃ d', f_Figures_roundTo N 24 d c (zI s) (zI p) = some (d', zI (rndN E n (p + s) : Int)) ∧ CF d' (zI (rndN E n (p + s) : Int)) (rndE E n (p + s)) (rndN E n (p + s)) ∧ ∀ j, rndE E n (p + s) j < 10 := by
  have hcf := h
  obtain ⟨rfl, hn23, hd, h0, h16, hne⟩ := h
  unfold f_Figures_roundTo f_Figures_roundTo_42 f_Figures_roundTo_43
  rw [zI_add]
  have hD1 : -200000 ≤ p + s ∧ p + s ≤ 200000 := by omega
  generalize p + s = D at hD1 ⊢
  unfold rndE rndN
  by_cases a : D ≤ 0
  · rw [if_neg (by rw [zI_lit, zI_lt (by omega) (by omega) (by omega) (by omega)]; omega)]
    simp only [if_pos a]
    exact ⟨d, rfl, hcf, h10⟩
  · rw [if_pos (by rw [zI_lit, zI_lt (by omega) (by omega) (by omega) (by omega)]; omega)]
    simp only [if_neg a]
    obtain ⟨e, he, e1, e2, e3⟩ := minE 24 D
    have he' : (if (24 : Int32) < zI D then (24 : Int32) else zI D) = zI e := by
      rw [← he, zI_lit]
      by_cases q : 24 < D
      · rw [if_pos (by rw [zI_lt (by omega) (by omega) (by omega) (by omega)]; exact q), if_pos q]
      · rw [if_neg (by rw [zI_lt (by omega) (by omega) (by omega) (by omega)]; exact q), if_neg q]
    rw [he']
    have hst : ∀ j, j < 24 → stR d 0 e 0 j = zI (zbE E D j : Int) := by
      intro j hj
      unfold stR zbE
      by_cases q : (j : Int) < D
      · rw [if_pos (by omega), if_pos q]; rfl
      · rw [if_neg (by omega), if_neg q]; exact hd j hj
    have r0 : f_Figures_roundTo_55 N 24 N d (zI (n : Int)) (zI D) 0 (zI e) 0 = some (stR d 0 e 0, zI ((if (n : Int) ≤ D then 0 else n : Nat) : Int)) := by
      have q0 := round_55 (N := N) (cn := zI (n : Int)) (x2 := zI D) (x3 := 0) 24 N d 0 e (by omega) (by omega) (by omega) (by omega) (by omega) (by omega)
      rw [show zI 0 = (0 : Int32) from rfl] at q0
      rw [q0, if_pos rfl]
      by_cases q : (n : Int) ≤ D
      · rw [if_neg (by rw [zI_lt (by omega) (by omega) (by omega) (by omega)]; omega), if_pos q]; rfl
      · rw [if_pos (by rw [zI_lt (by omega) (by omega) (by omega) (by omega)]; omega), if_neg q]
    have c0 : CF (stR d 0 e 0) (zI ((if (n : Int) ≤ D then 0 else n : Nat) : Int)) (zbE E D) (if (n : Int) ≤ D then 0 else n) := by
      refine ⟨rfl, by split <;> omega, hst, fun j hj => ?_, fun j => Nat.lt_trans (zbE_lt h10 D j) (by omega), ?_⟩
      · by_cases q : (n : Int) ≤ D
        · unfold zbE
          by_cases q2 : (j : Int) < D
          · rw [if_pos q2]
          · rw [if_neg q2]; exact h0 j (by omega)
        · rw [if_neg q] at hj
          exact zbE_0 h0 D j hj
      · by_cases q : (n : Int) ≤ D
        · rw [if_pos q]; exact Or.inl rfl
        · rw [if_neg q]
          refine Or.inr ?_
          unfold zbE
          rw [if_neg (by omega)]
          rcases hne with h | h
          · omega
          · exact h
    by_cases b : D ≤ (n : Int)
    · rw [if_neg (by rw [zI_lt (by omega) (by omega) (by omega) (by omega)]; omega), if_neg (by rw [zI_lit, zI_lt (by omega) (by omega) (by omega) (by omega)]; omega), zI_lit, zI_sub, zI_nat (by omega) (by omega), if_neg (by rw [zI_lit, zI_lt (by omega) (by omega) (by omega) (by omega)]; omega), hd (D - 1).toNat (by omega)]
      have h9 := h10 (D - 1).toNat
      by_cases u : 5 ≤ E (D - 1).toNat
      · rw [if_neg (by rw [zI_lit, zI_lt (by omega) (by omega) (by omega) (by omega)]; omega)]
        simp only [if_pos (And.intro b u)]
        have q0 := round_55 (N := N) (cn := zI (n : Int)) (x2 := zI D) (x3 := zI 1) 24 N d 0 e (by omega) (by omega) (by omega) (by omega) (by omega) (by omega)
        rw [show zI 0 = (0 : Int32) from rfl] at q0
        rw [q0, if_neg (show ¬ zI 1 = 0 by decide)]
        unfold f_Figures_countUpFrom
        rw [if_neg (by rw [zI_lit, zI_lt (by omega) (by omega) (by omega) (by omega)]; omega), show zI D = zI ((D.toNat : Nat) : Int) by congr 1; omega]
        obtain ⟨d', q1, q2⟩ := countUp_6 (n := n) hn (cn := n) (by omega) 30 N D.toNat (stR d 0 e 0) (zbE E D) hst (zbE_0 h0 D) (zbE_lt h10 D) (by omega) (by omega) (by omega)
        have hle := incT_le (n := n) 30 (zbE E D) D.toNat (zbE_0 h0 D) (by omega) (by omega)
        have G := incE_at (n := n) 30 (zbE E D) D.toNat (zbE_0 h0 D) (by omega) (by omega)
        simp only [Nat.reduceAdd] at G hle q1 q2
        obtain ⟨g1, g2, g3, g4, g5⟩ := G
        rw [q1, b2s]
        have hlt := incE_lt (n := n) (zbE_0 h0 D) (show D.toNat ≤ n by omega) hn (zbE_lt h10 D)
        refine ⟨d', rfl, ⟨rfl, by omega, q2, fun j hj => ?_, fun j => Nat.lt_trans (hlt j) (by omega), Or.inr ?_⟩, hlt⟩
        · rw [g2 j (by omega)]; exact zbE_0 h0 D j (by omega)
        · by_cases q : n ≤ incT 31 (zbE E D) D.toNat + 1
          · rw [Nat.max_eq_right q, Nat.add_sub_cancel, g3]; omega
          · rw [Nat.max_eq_left (by omega), g2 (n - 1) (by omega)]
            unfold zbE
            have := incT_ge 31 (zbE E D) D.toNat
            rw [if_neg (by omega)]
            rcases hne with h | h
            · omega
            · exact h
      · rw [if_pos (by rw [zI_lit, zI_lt (by omega) (by omega) (by omega) (by omega)]; omega)]
        simp only [if_neg (fun q : D ≤ (n : Int) ∧ 5 ≤ E (D - 1).toNat => u q.2)]
        exact ⟨_, r0, c0, zbE_lt h10 D⟩
    · rw [if_pos (by rw [zI_lt (by omega) (by omega) (by omega) (by omega)]; omega)]
      simp only [if_neg (fun q : D ≤ (n : Int) ∧ 5 ≤ E (D - 1).toNat => b q.1)]
      exact ⟨_, r0, c0, zbE_lt h10 D⟩
end PUround
