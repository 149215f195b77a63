section PUkeep
theorem keep_112 {m : Nat} (hm : m ≤ 59) (F0 : Nat → Int32) (mz pt : Int32) : ∀ (j fuel : Nat) (F : Nat → Int32), j ≤ m → j < fuel → (∀ k, k ≤ m → F k = if j < k then F0 (k - 1) else F0 k) → ∃ F' : Nat → Int32, f_Mo_keep_112 64 fuel F mz pt (zI (j : Int)) = some (F', mz + 1, pt + 1) ∧ F' 0 = 1 ∧ ∀ k, k < m → F' (k + 1) = F0 k := by
  intro j
  induction j with
  | zero =>
    intro fuel F h1 h2 h3
    obtain ⟨fu, rfl, -⟩ := fuelS h2
    rw [f_Mo_keep_112, if_pos (by decide), if_neg (by decide)]
    refine ⟨_, rfl, upd_same _ _ _, fun k hk => ?_⟩
    rw [upd_ne _ _ (by show k + 1 ≠ 0; omega), h3 (k + 1) (by omega), if_pos (by omega)]
    rfl
  | succ j ih =>
    intro fuel F h1 h2 h3
    obtain ⟨fu, rfl, hfu⟩ := fuelS h2
    rw [f_Mo_keep_112, if_neg (by rw [zI_lit, zI_le (by omega) (by omega) (by omega) (by omega)]; omega), show zI ((j + 1 : Nat) : Int) - 1 = zI (j : Int) by rw [zI_lit, zI_sub]; congr 1; omega, zI_nat (by omega) (by omega), zI_nat (by omega) (by omega), show ((j : Int)).toNat = j by omega, show (((j + 1 : Nat) : Int)).toNat = j + 1 by omega, if_neg (by rw [zI_lit, zI_lt (by omega) (by omega) (by omega) (by omega)]; omega), if_neg (by rw [zI_lit, zI_lt (by omega) (by omega) (by omega) (by omega)]; omega), show zI ((j + 1 : Nat) : Int) + -1 = zI (j : Int) by rw [show (-1 : Int32) = zI (-1) from rfl, zI_add]; congr 1; omega]
    refine ih fu _ (by omega) (by omega) (fun k hk => ?_)
    by_cases q : k = j + 1
    · subst q
      rw [upd_same, h3 j (by omega), if_neg (by omega), if_pos (by omega)]
      rfl
    · rw [upd_ne _ _ q, h3 k hk]
      by_cases q2 : j + 1 < k
      · rw [if_pos q2, if_pos (by omega)]
      · rw [if_neg q2, if_neg (by omega)]
theorem keep_49up {N m nn : Nat} (hN : 1000000 < N) (hm : m ≤ 22) (hnn : nn < m) (pt : Int32) : ∀ (q fuel : Nat) (F : Nat → Int32) (C : Nat → Nat) (i : Nat), i + q = m → m ≤ i + nn → q + 1 < fuel → (∀ k, k < nn → F k = zI (C (m - 1 - k) : Int)) → (∀ j, m ≤ j → C j = 0) → (∀ j, C j < 10) → ∃ F' : Nat → Int32, f_Mo_keep_49 N 64 fuel F (zI (nn : Int)) pt 1 (zI ((m : Int) - 1 - i)) = some (F', (if incT (q + 1) C i = m then zI ((nn + 1 : Nat) : Int) else zI (nn : Int)), (if incT (q + 1) C i = m then pt + 1 else pt)) ∧ (∀ k, k < (if incT (q + 1) C i = m then nn + 1 else nn) → F' k = zI (incE (q + 1) C i ((if incT (q + 1) C i = m then m else m - 1) - k) : Int)) := by
  intro q
  induction q with
  | zero =>
    intro fuel F C i h1 h2 h3 h4 h5 h6
    obtain ⟨fu, rfl, -⟩ := fuelS (Nat.lt_of_succ_lt h3)
    have him : i = m := by omega
    subst him
    have h0 : C i = 0 := h5 i (Nat.le_refl _)
    have hT : incT (0 + 1) C i = i := by rw [incT, h0, if_pos (by omega)]
    have hE : incE (0 + 1) C i = updN C i 1 := by rw [incE, h0, if_pos (by omega)]
    rw [hT, hE]
    simp only [↓reduceIte]
    rw [f_Mo_keep_49, if_neg n10, if_pos (by rw [zI_lit, zI_lt (by omega) (by omega) (by omega) (by omega)]; omega), if_neg n10]
    obtain ⟨F', e1, e2, e3⟩ := keep_112 (m := nn) (by omega) F (zI (nn : Int)) pt nn N F (Nat.le_refl _) (by omega) (fun k hk => by rw [if_neg (by omega)])
    refine ⟨F', ?_, fun k hk => ?_⟩
    · rw [e1, show zI (nn : Int) + 1 = zI ((nn : Int) + 1) from zI_add _ 1, cast1 nn]
    · cases k with
      | zero => rw [e2, Nat.sub_zero, updN_same]; rfl
      | succ k => rw [e3 k (by omega), h4 k (by omega), updN_ne _ _ (by omega)]; congr 3; omega
  | succ q ih =>
    intro fuel F C i h1 h2 h3 h4 h5 h6
    obtain ⟨fu, rfl, hfu⟩ := fuelS (Nat.lt_of_succ_lt h3)
    have hk : ((m : Int) - 1 - i) = ((m - 1 - i : Nat) : Int) := by omega
    have hkn : m - 1 - i < nn := by omega
    have hF := h4 (m - 1 - i) hkn
    rw [show m - 1 - (m - 1 - i) = i by omega] at hF
    have h6i := h6 i
    have g : ¬ (zI ((m - 1 - i : Nat) : Int) < 0 ∨ 64 ≤ m - 1 - i) := by rw [zI_lit, zI_lt (by omega) (by omega) (by omega) (by omega)]; omega
    have hnx : zI ((m - 1 - i : Nat) : Int) + -1 = zI ((m : Int) - 1 - ((i + 1 : Nat) : Int)) := by rw [show (-1 : Int32) = zI (-1) from rfl, zI_add]; congr 1; omega
    rw [hk, f_Mo_keep_49, if_neg n10, if_neg (by rw [zI_lit, zI_lt (by omega) (by omega) (by omega) (by omega)]; omega), zI_nat (by omega) (by omega), show (((m - 1 - i : Nat) : Int)).toNat = m - 1 - i by omega, if_neg g, hF]
    by_cases h9 : C i = 9
    · rw [if_pos (by rw [h9]; rfl)]
      unfold f_Mo_keep_73
      rw [if_neg n10, zI_nat (by omega) (by omega), show (((m - 1 - i : Nat) : Int)).toNat = m - 1 - i by omega, if_neg g, hnx]
      have hT : incT (q + 1 + 1) C i = incT (q + 1) (updN C i 0) (i + 1) := by
        rw [incT_congr (q + 1) (updN C i 0) C (i + 1) (fun j hj => updN_ne _ _ (by omega)), incT, if_neg (by omega)]
      have hE : incE (q + 1 + 1) C i = incE (q + 1) (updN C i 0) (i + 1) := by rw [incE, if_neg (by omega)]
      rw [hT, hE]
      refine ih fu _ (updN C i 0) (i + 1) (by omega) (by omega) (by omega) (fun k hk => ?_) (fun j hj => by rw [updN_ne _ _ (by omega)]; exact h5 j hj) (fun j => ?_)
      · by_cases w : k = m - 1 - i
        · subst w; rw [upd_same, show m - 1 - (m - 1 - i) = i by omega, updN_same]; rfl
        · rw [upd_ne _ _ w, updN_ne _ _ (by omega)]; exact h4 k hk
      · by_cases w : j = i
        · subst w; rw [updN_same]; omega
        · rw [updN_ne _ _ w]; exact h6 j
    · rw [if_neg (by rw [zI_lit, zI_eq (by omega) (by omega) (by omega) (by omega)]; omega)]
      unfold f_Mo_keep_73
      rw [if_pos rfl, zI_nat (by omega) (by omega), show (((m - 1 - i : Nat) : Int)).toNat = m - 1 - i by omega, if_neg g, if_neg g, hnx, hF]
      have hT : incT (q + 1 + 1) C i = i := by rw [incT, if_pos (by omega)]
      have hE : incE (q + 1 + 1) C i = updN C i (C i + 1) := by rw [incE, if_pos (by omega)]
      rw [hT, hE]
      have hne : ¬ i = m := by omega
      simp only [if_neg hne]
      obtain ⟨fv, rfl, -⟩ := fuelS (show 0 < fu by omega)
      rw [f_Mo_keep_49, if_pos rfl, if_pos rfl]
      refine ⟨_, rfl, fun k hk => ?_⟩
      by_cases w : k = m - 1 - i
      · subst w; rw [upd_same, show m - 1 - (m - 1 - i) = i by omega, updN_same]; exact zI_add _ 1
      · rw [upd_ne _ _ w, updN_ne _ _ (by omega)]; exact h4 k hk
theorem incE_p {C : Nat → Nat} {i : Nat} (hc : C i < 9) (k : Nat) : incE (k + 1) C i = updN C i (C i + 1) := by rw [incE, if_pos hc]
theorem incT_p {C : Nat → Nat} {i : Nat} (hc : C i < 9) (k : Nat) : incT (k + 1) C i = i := by rw [incT, if_pos hc]
theorem inc_fuel {m : Nat} : ∀ (q q' : Nat) (C : Nat → Nat) (i : Nat), (∀ j, m ≤ j → C j = 0) → m ≤ i + q → m ≤ i + q' → i ≤ m → incE (q + 1) C i = incE (q' + 1) C i ∧ incT (q + 1) C i = incT (q' + 1) C i := by
  intro q
  induction q with
  | zero =>
    intro q' C i h0 h1 h2 h3
    have hc : C i < 9 := by rw [h0 i (by omega)]; omega
    exact ⟨(incE_p hc _).trans (incE_p hc _).symm, (incT_p hc _).trans (incT_p hc _).symm⟩
  | succ q ih =>
    intro q' C i h0 h1 h2 h3
    by_cases hc : C i < 9
    · exact ⟨(incE_p hc _).trans (incE_p hc _).symm, (incT_p hc _).trans (incT_p hc _).symm⟩
    · have hi : i ≠ m := by intro e; rw [h0 i (by omega)] at hc; omega
      cases q' with
      | zero => omega
      | succ q' =>
        have g1 := ih q' (updN C i 0) (i + 1) (fun j hj => by rw [updN_ne _ _ (by omega)]; exact h0 j hj) (by omega) (by omega) (by omega)
        have g2 := ih q' C (i + 1) h0 (by omega) (by omega) (by omega)
        constructor
        · rw [incE, if_neg hc, g1.1]
          conv => rhs; rw [incE, if_neg hc]
        · rw [incT, if_neg hc, g2.2]
          conv => rhs; rw [incT, if_neg hc]
theorem keep_ok {N m n : Nat} (hN : 1000000 < N) {F : Nat → Int32} {E : Nat → Nat} (h : RF F (zI (m : Int)) E ((m : Int) - 1) m) (h10 : ∀ j, E j < 10) (hm1 : 1 ≤ m) (hm : m ≤ 22) (h0 : ∀ j, n ≤ j → E j = 0) (hne : n = 0 ∨ E (n - 1) ≠ 0) (hnm : m = max n 1) {pz nn : Int} (p1 : -1000 ≤ pz) (p2 : pz ≤ 1000) (n1 : -100000 ≤ nn) (n2 : nn ≤ 100000) :
    ∃ (F' : Nat → Int32) (m' : Nat) (top' : Int), f_Mo_keep N 64 F (zI (m : Int)) (zI pz) (zI nn) = some (F', zI (m' : Int), zI (pz + (top' - ((m : Int) - 1)))) ∧ RF F' (zI (m' : Int)) (rndE E n ((m : Int) - nn)) top' m' ∧ (rndN E n ((m : Int) - nn) ≠ 0 → top' = (rndN E n ((m : Int) - nn) : Int) - 1) ∧ (rndN E n ((m : Int) - nn) = 0 → top' = (m : Int) - 1) := by
  have hRF := h
  obtain ⟨-, -, hF, hz, h16, -, -⟩ := h
  have hzm : ∀ j, m ≤ j → E j = 0 := fun j hj => h0 j (by omega)
  unfold f_Mo_keep f_Mo_keep_27 f_Mo_keep_28
  by_cases a : (m : Int) ≤ nn
  · rw [if_neg (by rw [zI_lt (by omega) (by omega) (by omega) (by omega)]; omega)]
    unfold rndE rndN
    simp only [if_pos (show (m : Int) - nn ≤ 0 by omega)]
    refine ⟨F, m, (m : Int) - 1, by congr 4; omega, hRF, fun q => by omega, fun _ => rfl⟩
  · rw [if_pos (by rw [zI_lt (by omega) (by omega) (by omega) (by omega)]; omega)]
    have hDp : ¬ ((m : Int) - nn ≤ 0) := by omega
    by_cases b : nn < 0
    · rw [if_pos (by rw [zI_lit, zI_lt (by omega) (by omega) (by omega) (by omega)]; omega), if_neg (by rw [zI_lit, zI_le (by omega) (by omega) (by omega) (by omega)]; omega)]
      obtain ⟨fv, rfl, -⟩ := fuelS (show 0 < N by omega)
      rw [f_Mo_keep_49, if_pos rfl, if_pos rfl]
      unfold rndE rndN
      have hup : ¬ ((m : Int) - nn ≤ (n : Int) ∧ 5 ≤ E ((m : Int) - nn - 1).toNat) := by omega
      simp only [if_neg hDp, if_neg hup, if_pos (show (n : Int) ≤ (m : Int) - nn by omega)]
      refine ⟨F, 0, (m : Int) - 1, by congr 4; omega, ⟨rfl, by omega, fun k hk => absurd hk (by omega), fun i hi => ?_, fun i => Nat.lt_trans (zbE_lt h10 _ i) (by omega), by omega, by omega⟩, fun q => absurd rfl q, fun _ => rfl⟩
      unfold zbE
      by_cases w : (i : Int) < (m : Int) - nn
      · rw [if_pos w]
      · rw [if_neg w]; exact hzm i (by omega)
    · rw [if_neg (by rw [zI_lit, zI_lt (by omega) (by omega) (by omega) (by omega)]; omega), zI_nat (by omega) (by omega), if_neg (by rw [zI_lit, zI_lt (by omega) (by omega) (by omega) (by omega)]; omega)]
      rw [if_pos (show (0 : Int32) ≤ zI nn by rw [zI_lit, zI_le (by omega) (by omega) (by omega) (by omega)]; omega)]
      have hFn : F nn.toNat = zI (E ((m : Int) - nn - 1).toNat : Int) := by
        rw [hF nn.toNat (by omega)]
        unfold eZ
        rw [if_neg (by omega)]
        congr 4; omega
      have h9 := h10 ((m : Int) - nn - 1).toNat
      rw [hFn]
      by_cases u : 5 ≤ E ((m : Int) - nn - 1).toNat
      · have hDn : (m : Int) - nn ≤ (n : Int) := by
          by_cases w : (m : Int) - nn ≤ (n : Int)
          · exact w
          · rw [h0 _ (by omega)] at u; omega
        have hnn : n = m := by omega
        rw [if_neg (by rw [zI_lit, zI_lt (by omega) (by omega) (by omega) (by omega)]; omega), if_pos (by rw [zI_lit, zI_le (by omega) (by omega) (by omega) (by omega)]; omega)]
        unfold rndE rndN
        simp only [if_neg hDp, if_pos (And.intro hDn u)]
        obtain ⟨D, hD⟩ : ∃ D : Nat, (m : Int) - nn = (D : Int) := ⟨((m : Int) - nn).toNat, by omega⟩
        have hnn2 : nn = ((m - D : Nat) : Int) := by omega
        rw [hD, show ((D : Int)).toNat = D by omega]
        have hzb := zbE_0 hzm (D : Int)
        obtain ⟨F', e1, e2⟩ := keep_49up (N := N) (m := m) (nn := m - D) hN hm (by omega) (zI pz) (m - D) N F (zbE E (D : Int)) D (by omega) (by omega) (by omega) (fun k hk => by
          rw [hF k (by omega)]
          unfold eZ zbE
          rw [if_neg (by omega), if_neg (by omega)]
          congr 3; omega) hzb (zbE_lt h10 _)
        obtain ⟨f1, f2⟩ := inc_fuel (m := m) (m - D) 30 (zbE E (D : Int)) D hzb (by omega) (by omega) (by omega)
        simp only [Nat.reduceAdd] at f1 f2
        rw [f1, f2] at e2
        rw [f2] at e1
        have hle := incT_le (n := m) 30 (zbE E (D : Int)) D hzb (by omega) (by omega)
        have hge := incT_ge 31 (zbE E (D : Int)) D
        have G := incE_at (n := m) 30 (zbE E (D : Int)) D hzb (by omega) (by omega)
        simp only [Nat.reduceAdd] at hle G
        obtain ⟨g1, g2, g3, g4, g5⟩ := G
        have hlt := incE_lt (n := m) hzb (show D ≤ m by omega) hm (zbE_lt h10 (D : Int))
        rw [hnn2, show zI ((m - D : Nat) : Int) - 1 = zI ((m : Int) - 1 - (D : Int)) by rw [zI_lit, zI_sub]; congr 1; omega, e1]
        generalize incT 31 (zbE E (D : Int)) D = T at *
        by_cases w : T = m
        · simp only [if_pos w] at e2 ⊢
          refine ⟨F', m - D + 1, (m : Int), ?_, ⟨rfl, by omega, fun k hk => ?_, fun i hi => ?_, fun i => Nat.lt_trans (hlt i) (by omega), by omega, by omega⟩, fun _ => by omega, fun q => absurd q (by omega)⟩
          · rw [show zI pz + 1 = zI (pz + 1) from zI_add _ 1]; congr 4; omega
          · rw [e2 k hk]
            unfold eZ
            rw [if_neg (by omega)]
            congr 3; omega
          · by_cases w2 : (i : Int) < D
            · rw [g1 i (by omega)]; unfold zbE; rw [if_pos w2]
            · rw [g2 i (by omega)]; exact hzb i (by omega)
        · simp only [if_neg w] at e2 ⊢
          refine ⟨F', m - D, (m : Int) - 1, ?_, ⟨rfl, by omega, fun k hk => ?_, fun i hi => ?_, fun i => Nat.lt_trans (hlt i) (by omega), by omega, by omega⟩, fun _ => by omega, fun q => rfl⟩
          · congr 4; omega
          · rw [e2 k hk]
            unfold eZ
            rw [if_neg (by omega)]
            congr 3; omega
          · by_cases w2 : (i : Int) < D
            · rw [g1 i (by omega)]; unfold zbE; rw [if_pos w2]
            · rw [g2 i (by omega)]; exact hzb i (by omega)
      · rw [if_pos (by rw [zI_lit, zI_lt (by omega) (by omega) (by omega) (by omega)]; omega)]
        obtain ⟨fv, rfl, -⟩ := fuelS (show 0 < N by omega)
        rw [f_Mo_keep_49, if_pos rfl, if_pos rfl]
        unfold rndE rndN
        have hup : ¬ ((m : Int) - nn ≤ (n : Int) ∧ 5 ≤ E ((m : Int) - nn - 1).toNat) := fun q => u q.2
        simp only [if_neg hDp, if_neg hup]
        refine ⟨F, nn.toNat, (m : Int) - 1, ?_, ⟨rfl, by omega, fun k hk => ?_, fun i hi => ?_, fun i => Nat.lt_trans (zbE_lt h10 _ i) (by omega), by omega, by omega⟩, fun q => ?_, fun _ => rfl⟩
        · rw [show ((nn.toNat : Nat) : Int) = nn by omega]; congr 4; omega
        · rw [hF k (by omega)]
          unfold eZ zbE
          rw [if_neg (by omega), if_neg (by omega), if_neg (by omega)]
        · unfold zbE
          by_cases w2 : (i : Int) < (m : Int) - nn
          · rw [if_pos w2]
          · rw [if_neg w2]; exact hzm i (by omega)
        · by_cases w2 : (n : Int) ≤ (m : Int) - nn
          · rw [if_pos w2] at q; omega
          · rw [if_neg w2] at q ⊢; omega
end PUkeep
