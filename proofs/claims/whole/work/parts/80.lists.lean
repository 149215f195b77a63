section PUlists
theorem sg_ck : ∀ v, v < 16 → 0 ≤ (kByt 6 v).toInt ∧ (kByt 6 v).toInt < 65536 := by decide +kernel
theorem sg_10 : ∀ v : Nat, v < 10 → kByt 6 v = zI (48 + (v : Int)) := by decide +kernel
theorem sg_16 : ∀ v : Nat, v < 16 → kByt 6 v = if v < 10 then zI (48 + (v : Int)) else zI (87 + (v : Int)) := by decide +kernel
theorem sg_0 : kByt 6 0 = 48 := by decide +kernel
theorem eZ_lt {E : Nat → Nat} {b : Nat} (h : ∀ i, E i < b) (hb : 0 < b) (q : Int) : eZ E q < b := by
  unfold eZ
  split
  · exact hb
  · exact h _
theorem eZ_ck {E : Nat → Nat} (h : ∀ i, E i < 16) (q : Int) : ck (kByt 6 (eZ E q)) := ck_of (sg_ck _ (eZ_lt h (by omega) q))
def fracL (E : Nat → Nat) : Int → Nat → List Int32
  | _, 0 => []
  | q, n + 1 => kByt 6 (eZ E q) :: fracL E (q - 1) n
theorem fracL_len (E : Nat → Nat) : ∀ (n : Nat) (q : Int), (fracL E q n).length = n := by
  intro n
  induction n with
  | zero => intro q; rfl
  | succ n ih => intro q; rw [fracL, List.length_cons, ih]
theorem fracL_neg (E : Nat → Nat) : ∀ (n : Nat) (q : Int), q < 0 → fracL E q n = List.replicate n 48 := by
  intro n
  induction n with
  | zero => intro q _; rfl
  | succ n ih =>
    intro q h
    rw [fracL, ih (q - 1) (by omega), List.replicate_succ]
    unfold eZ
    rw [if_pos h, sg_0]
theorem fracL_zero {E : Nat → Nat} (hE : ∀ i, E i = 0) : ∀ (n : Nat) (q : Int), fracL E q n = List.replicate n 48 := by
  intro n
  induction n with
  | zero => intro q; rfl
  | succ n ih =>
    intro q
    rw [fracL, ih (q - 1), List.replicate_succ]
    unfold eZ
    split
    · rw [sg_0]
    · rw [hE, sg_0]
theorem fracL_app (E : Nat → Nat) : ∀ (a b : Nat) (q : Int), fracL E q (a + b) = fracL E q a ++ fracL E (q - a) b := by
  intro a
  induction a with
  | zero => intro b q; rw [Nat.zero_add, show q - ((0 : Nat) : Int) = q by omega]; rfl
  | succ a ih =>
    intro b q
    rw [show a + 1 + b = a + b + 1 by omega, fracL, fracL, ih b (q - 1), List.cons_append, show q - 1 - (a : Int) = q - ((a + 1 : Nat) : Int) by omega]
def cmL (gr : Prop) [Decidable gr] (t : Nat) : List Int32 := if gr ∧ 0 < t ∧ t % 3 = 0 then [44] else []
def intL (E : Nat → Nat) (s : Int) (gr : Prop) [Decidable gr] : Nat → List Int32
  | 0 => []
  | t + 1 => kByt 6 (eZ E ((t : Int) + s)) :: (cmL gr t ++ intL E s gr t)
theorem intL_len (E : Nat → Nat) (s : Int) (gr : Prop) [Decidable gr] : ∀ t, (intL E s gr t).length ≤ 2 * t := by
  intro t
  induction t with
  | zero => exact Nat.le_refl _
  | succ t ih =>
    rw [intL, List.length_cons, List.length_append]
    have : (cmL gr t).length ≤ 1 := by unfold cmL; split <;> simp
    omega
def bhL (E : Nat → Nat) (q : Int) (be : Nat) (pt : Prop) [Decidable pt] : List Int32 := (if 0 < be ∨ pt then [46] else []) ++ fracL E q be
variable {paper : Nat → Int32} {plen : Int32} {l : List Int32} {d : Nat → Int32} {c : Int32} {E : Nat → Nat} {n : Nat}
theorem behind_46 {N : Nat} (hN : 1000000 < N) (hc : CF d c E n) {s be fp kn : Int} (s1 : -1000 ≤ s) (s2 : s ≤ 1000) (b1 : 0 ≤ be) (b2 : be ≤ 20000) (f1 : -1000 ≤ fp) (f2 : fp ≤ 1000) (k1 : 0 ≤ kn) (k2 : kn ≤ be) : ∀ (k fuel : Nat) (i : Nat) (paper : Nat → Int32) (plen : Int32) (l : List Int32), (i : Int) + k = kn → k < fuel → rwL 4096 paper plen l → l.length + k < 200000 → ∃ k' l', f_Composer_addBehindPoint_46 N 4096 24 d c (zI s) (zI be) (zI fp) fuel paper plen (zI kn) (zI (i : Int)) = some (k', l') ∧ rwL 4096 k' l' (l ++ (fracL E (fp + s - i) k ++ reps (be - kn) 48)) := by
  intro k
  induction k with
  | zero =>
    intro fuel i paper plen l h1 h2 h3 h4
    obtain ⟨fu, rfl, -⟩ := fuelS h2
    rw [f_Composer_addBehindPoint_46, if_pos (by rw [zI_le (by omega) (by omega) (by omega) (by omega)]; omega), zI_sub]
    obtain ⟨k1, l1, e1, r1⟩ := row_addMany (N := N) (c := 48) (by decide) h3 (ck_z (z := 48) (by omega) (by omega)) (m := be - kn) (by omega) (by omega) (by omega) (by omega)
    rw [e1, b2s]
    exact ⟨k1, l1, rfl, r1⟩
  | succ k ih =>
    intro fuel i paper plen l h1 h2 h3 h4
    obtain ⟨fu, rfl, hfu⟩ := fuelS h2
    rw [f_Composer_addBehindPoint_46, if_neg (by rw [zI_le (by omega) (by omega) (by omega) (by omega)]; omega), zI_sub, sgn hc (by omega) (by omega) (by omega) (by omega), b1s]
    obtain ⟨k1, l1, e1, r1⟩ := row_add (by decide) h3 (eZ_ck hc.2.2.2.2.1 (fp - i + s)) (by omega)
    rw [e1, b2s, show zI (i : Int) + 1 = zI ((i : Int) + 1) from zI_add _ 1, cast1 i]
    obtain ⟨k2, l2, e2, r2⟩ := ih fu (i + 1) k1 l1 _ (by omega) (by omega) r1 (by rw [List.length_append]; simp; omega)
    refine ⟨k2, l2, e2, ?_⟩
    rw [fracL]
    rw [List.append_assoc] at r2
    rw [show fp + s - (i : Int) = fp - i + s by omega, show fp - (i : Int) + s - 1 = fp + s - ((i + 1 : Nat) : Int) by omega]
    exact r2
theorem behind_20 {N : Nat} (hN : 1000000 < N) (hc : CF d c E n) {s be fp : Int} (s1 : -1000 ≤ s) (s2 : s ≤ 1000) (b1 : 0 ≤ be) (b2 : be ≤ 20000) (f1 : -1000 ≤ fp) (f2 : fp ≤ 1000) (h3 : rwL 4096 paper plen l) (h4 : l.length < 100000) : ∃ k' l', f_Composer_addBehindPoint_20 N 4096 24 d c (zI s) (zI be) (zI fp) paper plen = some (k', l') ∧ rwL 4096 k' l' (l ++ fracL E (fp + s) be.toNat) := by
  unfold f_Composer_addBehindPoint_20 f_Figures_lowestPower
  rw [b1s]
  obtain ⟨mx, hmx, m1, m2, m3⟩ := maxE (fp - (-s) + 1) 0
  have hm' : (if (zI fp - -zI s + 1 : Int32) < 0 then (0 : Int32) else zI fp - -zI s + 1) = zI mx := by
    rw [← hmx]
    simp (disch := omega) only [zI_lit, zI_n, zI_add, zI_sub, zI_mul, zI_neg, zI_le, zI_lt, zI_eq, zI_nat]
  rw [hm']
  obtain ⟨kn, hkn, k1, k2, k3⟩ := minE mx be
  have hk' : (if zI mx < zI be then zI mx else zI be) = zI kn := by
    rw [← hkn]
    simp (disch := omega) only [zI_lit, zI_n, zI_add, zI_sub, zI_mul, zI_neg, zI_le, zI_lt, zI_eq, zI_nat]
  rw [hk']
  obtain ⟨k', l', e1, r1⟩ := behind_46 (fp := fp) (kn := kn) hN hc s1 s2 b1 b2 f1 f2 (by omega) (by omega) kn.toNat N 0 paper plen l (by omega) (by omega) h3 (by omega)
  refine ⟨k', l', e1, ?_⟩
  have hsplit : fracL E (fp + s) be.toNat = fracL E (fp + s) kn.toNat ++ reps (be - kn) 48 := by
    rw [show be.toNat = kn.toNat + (be - kn).toNat by omega, fracL_app]
    congr 1
    by_cases q : kn = be
    · rw [show (be - kn).toNat = 0 by omega]; unfold reps; rw [show (be - kn).toNat = 0 by omega]; rfl
    · rw [fracL_neg E _ _ (by omega)]; rfl
  rw [hsplit, show fp + s = fp + s - ((0 : Nat) : Int) by omega]
  exact r1
theorem behind_ok {N : Nat} (hN : 1000000 < N) (hc : CF d c E n) {s be fp : Int} (s1 : -1000 ≤ s) (s2 : s ≤ 1000) (b1 : 0 ≤ be) (b2 : be ≤ 20000) (f1 : -1000 ≤ fp) (f2 : fp ≤ 1000) (pt : Int32) (h3 : rwL 4096 paper plen l) (h4 : l.length < 90000) : ∃ k' l', f_Composer_addBehindPoint N 4096 paper plen 24 d c (zI s) (zI be) (zI fp) pt = some (k', l') ∧ rwL 4096 k' l' (l ++ bhL E (fp + s) be.toNat (pt ≠ 0)) := by
  unfold f_Composer_addBehindPoint f_Composer_addBehindPoint_11 bhL
  obtain ⟨k1, l1, e1, r1⟩ := row_add (c := 46) (by decide) h3 (ck_z (z := 46) (by omega) (by omega)) (by omega)
  obtain ⟨k2, l2, e2, r2⟩ := behind_20 (fp := fp) hN hc s1 s2 b1 b2 f1 f2 r1 (by rw [List.length_append]; simp; omega)
  obtain ⟨k3, l3, e3, r3⟩ := behind_20 (fp := fp) hN hc s1 s2 b1 b2 f1 f2 h3 (by omega)
  rw [e1, b2s, e2, e3]
  rw [List.append_assoc] at r2
  by_cases q : 0 < be
  · rw [if_pos (by rw [zI_lit, zI_lt (by omega) (by omega) (by omega) (by omega)]; exact q), if_pos (show 0 < be.toNat ∨ pt ≠ 0 from Or.inl (by omega))]
    exact ⟨k2, l2, rfl, r2⟩
  · rw [if_neg (by rw [zI_lit, zI_lt (by omega) (by omega) (by omega) (by omega)]; exact q)]
    by_cases q2 : pt = 0
    · rw [if_pos q2, if_neg (show ¬ (0 < be.toNat ∨ pt ≠ 0) from fun h => h.elim (fun h => by omega) (fun h => h q2))]
      exact ⟨k3, l3, rfl, r3⟩
    · rw [if_neg q2, if_pos (show 0 < be.toNat ∨ pt ≠ 0 from Or.inr q2)]
      exact ⟨k2, l2, rfl, r2⟩
end PUlists
