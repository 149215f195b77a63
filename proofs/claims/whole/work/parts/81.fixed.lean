section PUfixed
variable {d : Nat → Int32} {c : Int32} {E : Nat → Nat} {n : Nat}
theorem mod3 (t : Nat) (ht : t < 100000) : (zI (t : Int) - zI (t : Int) / (3 : Int32) * (3 : Int32) = 0) = (t % 3 = 0) := by
  rw [zI_lit, zI_lit, zI_div (by omega) (by omega) (by omega) (by omega), show Int.tdiv (t : Int) 3 = ((t / 3 : Nat) : Int) from rfl, zI_mul, zI_sub, zI_eq (by omega) (by omega) (by omega) (by omega)]
  apply propext
  omega
theorem fixed_12 {N : Nat} (hN : 1000000 < N) (hc : CF d c E n) {s be : Int} (s1 : -1000 ≤ s) (s2 : s ≤ 1000) (b1 : 0 ≤ be) (b2 : be ≤ 20000) (gr pt : Int32) : ∀ (t fuel : Nat) (paper : Nat → Int32) (plen : Int32) (l : List Int32), t < 200 → t < fuel → rwL 4096 paper plen l → l.length + 2 * t < 80000 → ∃ k' l', f_Composer_addFixed_12 N 4096 24 d c (zI s) (zI be) gr pt fuel paper plen (zI ((t : Int) - 1)) = some (k', l') ∧ rwL 4096 k' l' (l ++ (intL E s (gr ≠ 0) t ++ bhL E (-1 + s) be.toNat (pt ≠ 0))) := by
  intro t
  induction t with
  | zero =>
    intro fuel paper plen l h1 h2 h3 h4
    obtain ⟨fu, rfl, -⟩ := fuelS h2
    rw [f_Composer_addFixed_12, if_pos (by rw [zI_lit, zI_lt (by omega) (by omega) (by omega) (by omega)]; omega)]
    obtain ⟨k1, l1, e1, r1⟩ := behind_ok (fp := -1) hN hc s1 s2 b1 b2 (by omega) (by omega) pt h3 (by omega)
    rw [show (-1 : Int32) = zI (-1) from rfl, e1, b2s]
    exact ⟨k1, l1, rfl, r1⟩
  | succ t ih =>
    intro fuel paper plen l h1 h2 h3 h4
    obtain ⟨fu, rfl, hfu⟩ := fuelS h2
    rw [show (((t + 1 : Nat) : Int) - 1) = (t : Int) by omega, f_Composer_addFixed_12, if_neg (by rw [zI_lit, zI_lt (by omega) (by omega) (by omega) (by omega)]; omega), sgn hc (by omega) (by omega) (by omega) (by omega), b1s]
    obtain ⟨k1, l1, e1, r1⟩ := row_add (by decide) h3 (eZ_ck hc.2.2.2.2.1 ((t : Int) + s)) (by omega)
    obtain ⟨k2, l2, e2, r2⟩ := row_add (c := 44) (by decide) r1 (ck_z (z := 44) (by omega) (by omega)) (by rw [List.length_append]; simp; omega)
    rw [e1, b2s, show zI (t : Int) + -1 = zI ((t : Int) - 1) by rw [show (-1 : Int32) = zI (-1) from rfl, zI_add]; rfl, e2, b2s]
    obtain ⟨k3, l3, e3, r3⟩ := ih fu k1 l1 _ (by omega) (by omega) r1 (by rw [List.length_append]; simp; omega)
    obtain ⟨k4, l4, e4, r4⟩ := ih fu k2 l2 _ (by omega) (by omega) r2 (by rw [List.length_append, List.length_append]; simp; omega)
    rw [intL]
    unfold cmL
    have hno : ¬ (gr ≠ 0 ∧ 0 < t ∧ t % 3 = 0) → rwL 4096 k3 l3 (l ++ ((kByt 6 (eZ E ((t : Int) + s)) :: ((if gr ≠ 0 ∧ 0 < t ∧ t % 3 = 0 then [44] else []) ++ intL E s (gr ≠ 0) t)) ++ bhL E (-1 + s) be.toNat (pt ≠ 0))) := by
      intro h
      rw [if_neg h]
      simpa using r3
    by_cases q1 : gr = 0
    · rw [if_pos q1]
      exact ⟨k3, l3, e3, hno (fun h => h.1 q1)⟩
    · rw [if_neg q1]
      by_cases q2 : t = 0
      · rw [if_pos (by rw [zI_lit, zI_le (by omega) (by omega) (by omega) (by omega)]; omega)]
        exact ⟨k3, l3, e3, hno (fun h => by omega)⟩
      · rw [if_neg (by rw [zI_lit, zI_le (by omega) (by omega) (by omega) (by omega)]; omega)]
        by_cases q3 : t % 3 = 0
        · rw [if_pos (by rw [mod3 t (by omega)]; exact q3)]
          refine ⟨k4, l4, e4, ?_⟩
          rw [if_pos ⟨q1, by omega, q3⟩]
          simpa using r4
        · rw [if_neg (by rw [mod3 t (by omega)]; exact q3)]
          exact ⟨k3, l3, e3, hno (fun h => q3 h.2.2)⟩
theorem fixed_ok {N : Nat} (hN : 1000000 < N) {paper : Nat → Int32} {plen : Int32} {l : List Int32} (hc : CF d c E n) {s be : Int} (s1 : -100 ≤ s) (s2 : s ≤ 100) (b1 : 0 ≤ be) (b2 : be ≤ 20000) (gr pt : Int32) (h3 : rwL 4096 paper plen l) (h4 : l.length < 50000) : ∃ k' l', f_Composer_addFixed N 4096 paper plen 24 d c (zI s) (zI be) gr pt = some (k', l') ∧ rwL 4096 k' l' (l ++ (intL E s (gr ≠ 0) (max ((n : Int) - s) 1).toNat ++ bhL E (-1 + s) be.toNat (pt ≠ 0))) := by
  have hn := hc.2.1
  have hcz := hc.1
  unfold f_Composer_addFixed f_Figures_top
  rw [b1s, hcz, zI_lit, zI_sub, zI_sub, ← hcz]
  obtain ⟨mx, hmx, m1, m2, m3⟩ := maxE ((n : Int) - 1 - s) 0
  rw [show (if zI ((n : Int) - 1 - s) < (0 : Int32) then (0 : Int32) else zI ((n : Int) - 1 - s)) = zI mx by rw [← hmx]; simp (disch := omega) only [zI_lit, zI_n, zI_add, zI_sub, zI_mul, zI_neg, zI_le, zI_lt, zI_eq, zI_nat]]
  obtain ⟨k', l', e1, r1⟩ := fixed_12 (s := s) hN hc (by omega) (by omega) b1 b2 gr pt (mx + 1).toNat N paper plen l (by omega) (by omega) h3 (by omega)
  rw [show ((((mx + 1).toNat : Nat) : Int) - 1) = mx by omega] at e1
  rw [show (mx + 1).toNat = (max ((n : Int) - s) 1).toNat by omega] at r1
  exact ⟨k', l', e1, r1⟩
def expL (x : Int) : List Int32 := [101, if x < 0 then 45 else 43, zI (48 + ((x.natAbs / 10 % 10 : Nat) : Int)), zI (48 + ((x.natAbs % 10 : Nat) : Int))]
theorem d10 (a : Nat) (ha : a < 1000) : zI (a : Int) / (10 : Int32) = zI ((a / 10 : Nat) : Int) := by
  rw [zI_lit, zI_div (by omega) (by omega) (by omega) (by omega)]
  rfl
theorem m10 (a : Nat) (ha : a < 1000) : zI (a : Int) - zI (a : Int) / (10 : Int32) * (10 : Int32) = zI ((a % 10 : Nat) : Int) := by
  rw [d10 a ha, zI_lit, zI_mul, zI_sub]
  congr 1
  omega
theorem exp_ok {N : Nat} (hN : 1000000 < N) {paper : Nat → Int32} {plen : Int32} {l : List Int32} (hc : CF d c E n) {s be x : Int} (s1 : -100 ≤ s) (s2 : s ≤ 100) (b1 : 0 ≤ be) (b2 : be ≤ 20000) (pt : Int32) (h3 : rwL 4096 paper plen l) (h4 : l.length < 50000) (hx : x = if n = 0 then 0 else (n : Int) - 1 - s) : ∃ k' l', f_Composer_addWithExponent N 4096 paper plen 24 d c (zI s) (zI be) pt = some (k', l') ∧ rwL 4096 k' l' (l ++ (kByt 6 (eZ E (x + s)) :: (bhL E (x - 1 + s) be.toNat (pt ≠ 0) ++ expL x))) := by
  have hn := hc.2.1
  have hcz := hc.1
  have hxr : -200 ≤ x ∧ x ≤ 200 := by rw [hx]; split <;> omega
  unfold f_Composer_addWithExponent
  have hex : f_Figures_exponent c (zI s) = some (zI x) := by
    unfold f_Figures_exponent f_Figures_isZero f_Figures_top
    rw [hcz, hx]
    by_cases q : n = 0
    · rw [if_pos (by rw [q]; rfl), b1s, if_neg n10, if_pos q]; rfl
    · rw [if_neg (by rw [zI_lit, zI_eq (by omega) (by omega) (by omega) (by omega)]; omega), b1s, if_pos rfl, b1s, if_neg q, zI_lit, zI_sub, zI_sub]
  rw [hex, b1s, sgn hc (by omega) (by omega) (by omega) (by omega), b1s]
  obtain ⟨k1, l1, e1, r1⟩ := row_add (by decide) h3 (eZ_ck hc.2.2.2.2.1 (x + s)) (by omega)
  rw [e1, b2s, zI_lit, zI_sub]
  obtain ⟨k2, l2, e2, r2⟩ := behind_ok (s := s) (fp := x - 1) hN hc (by omega) (by omega) b1 b2 (by omega) (by omega) pt r1 (by rw [List.length_append]; simp; omega)
  rw [e2, b2s]
  have hbl : (bhL E (x - 1 + s) be.toNat (pt ≠ 0)).length ≤ be.toNat + 1 := by
    unfold bhL
    rw [List.length_append, fracL_len]
    split <;> simp <;> omega
  have hlen2 : (l ++ [kByt 6 (eZ E (x + s))] ++ bhL E (x - 1 + s) be.toNat (pt ≠ 0)).length < 90000 := by
    rw [List.length_append, List.length_append, List.length_singleton]; omega
  obtain ⟨k3, l3, e3, r3⟩ := row_add (c := 101) (by decide) r2 (ck_z (z := 101) (by omega) (by omega)) (by omega)
  have hfin : ∀ sg : Int32, ck sg → ∃ k' l', f_Composer_addWithExponent_55 4096 k3 l3 (zI x) sg = some (k', l') ∧ rwL 4096 k' l' (l ++ [kByt 6 (eZ E (x + s))] ++ bhL E (x - 1 + s) be.toNat (pt ≠ 0) ++ [101] ++ [sg] ++ [zI (48 + ((x.natAbs / 10 % 10 : Nat) : Int))] ++ [zI (48 + ((x.natAbs % 10 : Nat) : Int))]) := by
    intro sg hsg
    unfold f_Composer_addWithExponent_55
    have habs : (if (0 : Int32) ≤ zI x then zI x else 0 - zI x) = zI (x.natAbs : Int) := by
      rw [zI_lit, zI_sub]
      by_cases q : 0 ≤ x
      · rw [if_pos (by rw [zI_le (by omega) (by omega) (by omega) (by omega)]; exact q)]; congr 1; omega
      · rw [if_neg (by rw [zI_le (by omega) (by omega) (by omega) (by omega)]; exact q)]; congr 1; omega
    rw [habs, m10 x.natAbs (by omega), d10 x.natAbs (by omega), m10 (x.natAbs / 10) (by omega), zI_lit, zI_add, zI_add, zI_c (by omega) (by omega), zI_c (by omega) (by omega)]
    obtain ⟨k4, l4, e4, r4⟩ := row_add (c := sg) (by decide) r3 hsg (by simp only [List.length_append, List.length_singleton] at hlen2 ⊢; omega)
    obtain ⟨k5, l5, e5, r5⟩ := row_add (by decide) r4 (ck_z (z := 48 + ((x.natAbs / 10 % 10 : Nat) : Int)) (by omega) (by omega)) (by simp only [List.length_append, List.length_singleton] at hlen2 ⊢; omega)
    obtain ⟨k6, l6, e6, r6⟩ := row_add (by decide) r5 (ck_z (z := 48 + ((x.natAbs % 10 : Nat) : Int)) (by omega) (by omega)) (by simp only [List.length_append, List.length_singleton] at hlen2 ⊢; omega)
    rw [e4, b2s, e5, b2s, e6, b2s]
    exact ⟨k6, l6, rfl, r6⟩
  first | rw [e3, b2s] | (rw [show (101 : Int32) = zI 101 from rfl] at e3; rw [e3, b2s])
  unfold expL
  by_cases q : x < 0
  · obtain ⟨k', l', e7, r7⟩ := hfin 45 (ck_z (z := 45) (by omega) (by omega))
    rw [if_neg (by rw [show (0 : Int32) = zI 0 from rfl, zI_le (by omega) (by omega) (by omega) (by omega)]; omega)]
    refine ⟨k', l', e7, ?_⟩
    rw [if_pos q]
    simpa using r7
  · obtain ⟨k', l', e7, r7⟩ := hfin 43 (ck_z (z := 43) (by omega) (by omega))
    rw [if_pos (by rw [show (0 : Int32) = zI 0 from rfl, zI_le (by omega) (by omega) (by omega) (by omega)]; omega)]
    refine ⟨k', l', e7, ?_⟩
    rw [if_neg q]
    simpa using r7
end PUfixed
