section PUnumeric
variable {N : Nat} {E : Nat → Nat} {n m : Nat} {F : Nat → Int32} {many : Int32} {top : Int}
theorem rnd_facts {v : Int64} (hn : isN (dg 10 v.toInt.natAbs) n) {D : Int} (D1 : -90000 ≤ D) (D2 : D ≤ 90000) : isN (rndE (dg 10 v.toInt.natAbs) n D) (rndN (dg 10 v.toInt.natAbs) n D) ∧ (∀ j, rndE (dg 10 v.toInt.natAbs) n D j < 10) ∧ rndN (dg 10 v.toInt.natAbs) n D ≤ 23 := by
  obtain ⟨d', n0, -, h⟩ := takeDec (N := 2000000) (by omega) (fun _ => 0) 0 0 v 0
  have e := isN_uniq (CF_isN h) hn
  subst e
  have h20 := isN_20 (natAbs_lt v) hn
  obtain ⟨d2, -, h2, h3⟩ := rnd_class (N := 2000000) (p := D) (s := 0) (by omega) h (dg10 _) (by omega) (by omega) (by omega) (by omega) (by omega)
  rw [show D + 0 = D by omega] at h2 h3
  exact ⟨CF_isN h2, h3, h2.2.1⟩
theorem rndN_0 {D : Int} (h : rndN E n D = 0) : n = 0 ∨ (n : Int) ≤ D := by
  unfold rndN at h
  split at h
  · exact Or.inl h
  · split at h
    · omega
    · split at h
      · rename_i q; exact Or.inr q
      · exact Or.inl h
theorem rnd_le0 {D : Int} (h : D ≤ 0) : rndE E n D = E ∧ rndN E n D = n := by
  unfold rndE rndN
  rw [if_pos h, if_pos h]
  exact ⟨rfl, rfl⟩
theorem size64_ok (v : Int64) : f_Mo_size64 v = some (zJ (v.toInt.natAbs : Int)) := by
  unfold f_Mo_size64
  simp only [lg0]
  obtain ⟨z, rfl, z1, z2⟩ := zJ_of v
  rw [zJ_toInt z1 z2]
  by_cases q : 0 ≤ z
  · rw [if_pos q, show ((z.natAbs : Nat) : Int) = z by omega]
  · rw [if_neg q, zJ_neg, show ((z.natAbs : Nat) : Int) = -z by omega]
theorem fixP_ref (hN : 1000000 < N) (h : RF F many E top m) (h10 : ∀ i, E i < 10) (fl : Int32) {s be : Int} (s1 : 0 ≤ s) (s2 : s ≤ 40) (b1 : 0 ≤ be) (b2 : be ≤ 11000) (hmax : max (top + 1 - s) 1 = max ((n : Int) - s) 1) {piece : Nat → Int32} {size : Int32} {l : List Int32} (h3 : rwL 20200 piece size l) (h4 : l.length ≤ 4000) : ∃ k' l', f_Mo_plain N fl 20200 piece size 64 F many (zI (top + 1 - s)) (zI be) = some (k', l') ∧ rwL 20200 k' l' (l ++ fixP E n s be fl) := by
  have ht := h.2.2.2.2.2
  obtain ⟨k', l', e, r⟩ := plain_ok (p := top + 1 - s) (be := be) hN h h10 fl (by omega) (by omega) b1 (by omega) h3 (by omega)
  refine ⟨k', l', e, ?_⟩
  unfold fixP
  rw [hmax, show top + 1 - (top + 1 - s) = s by omega, show top - (top + 1 - s) = -1 + s by omega] at r
  exact r
theorem expP_ref (hN : 1000000 < N) (h : RF F many E top m) (h10 : ∀ i, E i < 10) (fl : Int32) {s be : Int} (s1 : 0 ≤ s) (s2 : s ≤ 40) (b1 : 0 ≤ be) (b2 : be ≤ 11000) (hn : isN E n) (hn23 : n ≤ 23) (htop : n ≠ 0 → top = (n : Int) - 1) (ht30 : top ≤ 30) {piece : Nat → Int32} {size : Int32} {l : List Int32} (h3 : rwL 20200 piece size l) (h4 : l.length ≤ 4000) : ∃ k' l', f_Mo_exponential N fl 20200 piece size 64 F many (zI (top + 1 - s)) (zI be) = some (k', l') ∧ rwL 20200 k' l' (l ++ expP E n s be fl) := by
  have ht := h.2.2.2.2.2
  have hz := isZ_ok hN h
  by_cases q : n = 0
  · have hE : ∀ i, E i = 0 := fun i => hn.1 i (by omega)
    obtain ⟨k', l', e, r⟩ := expo_ok (p := top + 1 - s) (be := be) (x := 0) hN h h10 fl (by omega) (by omega) b1 (by omega) (hz.1 hE) (by rw [if_neg n10]) h3 (by omega)
    refine ⟨k', l', e, ?_⟩
    unfold expP xOf
    rw [if_pos q]
    have e0 : ∀ i : Int, eZ E i = 0 := by
      intro i
      unfold eZ
      split
      · rfl
      · exact hE _
    have e1 : ∀ i : Int, bhL E i be.toNat (fl &&& 2 ≠ 0) = (if 0 < be.toNat ∨ fl &&& 2 ≠ 0 then [46] else []) ++ List.replicate be.toNat 48 := by
      intro i
      unfold bhL
      rw [fracL_zero hE]
    rw [e0, e1] at r ⊢
    exact r
  · have hx : xOf n s = top - s := by unfold xOf; rw [if_neg q, htop q]
    obtain ⟨k', l', e, r⟩ := expo_ok (p := top + 1 - s) (be := be) (x := xOf n s) hN h h10 fl (by omega) (by omega) b1 (by omega) (hz.2 ⟨n - 1, by rcases hn.2 with w | w; exact absurd w q; exact w⟩) (by rw [if_pos rfl, hx]; omega) h3 (by omega)
    refine ⟨k', l', e, ?_⟩
    unfold expP
    rw [show xOf n s + s = top by omega, show xOf n s - 1 + s = top - 1 by omega]
    exact r
theorem decimal_52 (hN : 1000000 < N) {v : Int64} (hn : isN (dg 10 v.toInt.natAbs) n) (h : RF F (zI (m : Int)) (dg 10 v.toInt.natAbs) ((m : Int) - 1) m) (h1 : 1 ≤ m) (h2 : m = 1 ∨ dg 10 v.toInt.natAbs (m - 1) ≠ 0) (fl : Int32) {s pe : Int} (s1 : 0 ≤ s) (s2 : s ≤ 40) (p1 : 0 ≤ pe) (p2 : pe ≤ 9999) {ch : Int32} (hch : ch ≠ 100) {piece : Nat → Int32} {size : Int32} {l : List Int32} (h3 : rwL 20200 piece size l) (h4 : l.length ≤ 4000) : ∃ (k' : Nat → Int32) (l' : Int32) (F' : Nat → Int32) (m' pt' : Int32), f_Mo_decimal_1_52 N fl 20200 64 ch piece size F (zI (m : Int)) (zI ((m : Int) - s)) (zI pe) = some (k', l', F', m', pt') ∧ rwL 20200 k' l' (l ++ sgnP ch (dg 10 v.toInt.natAbs) n s pe fl) := by
  have h20 := isN_20 (natAbs_lt v) hn
  have hm := RF_m hn h h1 h2
  have h10 := dg10 v.toInt.natAbs
  unfold f_Mo_decimal_1_52 sgnP
  rw [if_neg hch]
  by_cases q1 : ch = 102
  · rw [if_pos q1, if_neg (show ¬ ch = 101 by rw [q1]; decide), if_pos q1]
    unfold f_Mo_fixed
    obtain ⟨F', m', top', e1, r1, t1, t2⟩ := keep_ok (n := n) (pz := (m : Int) - s) (nn := (m : Int) - s + pe) hN h h10 h1 (by omega) hn.1 hn.2 hm (by omega) (by omega) (by omega) (by omega)
    obtain ⟨g1, g2, g3⟩ := rnd_facts (D := (m : Int) - ((m : Int) - s + pe)) hn (by omega) (by omega)
    have hD : (m : Int) - ((m : Int) - s + pe) = s - pe := by omega
    rw [hD] at r1 t1 t2 g1 g2 g3
    rw [zI_add, e1, b3s, show (m : Int) - s + (top' - ((m : Int) - 1)) = top' + 1 - s by omega]
    obtain ⟨k', l', e2, r2⟩ := fixP_ref (n := rndN (dg 10 v.toInt.natAbs) n (s - pe)) (s := s) (be := pe) hN r1 g2 fl s1 s2 p1 (by omega) (by
      by_cases z : rndN (dg 10 v.toInt.natAbs) n (s - pe) = 0
      · have z2 := rndN_0 z
        rw [t2 z, z]
        omega
      · rw [t1 z]; congr 1; omega) h3 h4
    rw [e2, b2s, b5s]
    exact ⟨k', l', _, _, _, rfl, r2⟩
  rw [if_neg q1]
  by_cases q2 : ch = 101
  · rw [if_pos q2, if_pos q2]
    obtain ⟨F', m', top', e1, r1, t1, t2⟩ := keep_ok (n := n) (pz := (m : Int) - s) (nn := pe + 1) hN h h10 h1 (by omega) hn.1 hn.2 hm (by omega) (by omega) (by omega) (by omega)
    have hD : rndE (dg 10 v.toInt.natAbs) n ((m : Int) - (pe + 1)) = rndE (dg 10 v.toInt.natAbs) n ((n : Int) - 1 - pe) ∧ rndN (dg 10 v.toInt.natAbs) n ((m : Int) - (pe + 1)) = rndN (dg 10 v.toInt.natAbs) n ((n : Int) - 1 - pe) := by
      by_cases z : n = 0
      · have a1 := rnd_le0 (E := dg 10 v.toInt.natAbs) (n := n) (D := (m : Int) - (pe + 1)) (by omega)
        have a2 := rnd_le0 (E := dg 10 v.toInt.natAbs) (n := n) (D := (n : Int) - 1 - pe) (by omega)
        exact ⟨a1.1.trans a2.1.symm, a1.2.trans a2.2.symm⟩
      · rw [show (m : Int) - (pe + 1) = (n : Int) - 1 - pe by omega]
        exact ⟨rfl, rfl⟩
    rw [hD.1] at r1
    rw [hD.2] at t1 t2
    obtain ⟨g1, g2, g3⟩ := rnd_facts (D := (n : Int) - 1 - pe) hn (by omega) (by omega)
    rw [show zI pe + 1 = zI (pe + 1) from zI_add _ 1, e1, b3s, show (m : Int) - s + (top' - ((m : Int) - 1)) = top' + 1 - s by omega]
    have ht30 : top' ≤ 30 := by
      by_cases z : rndN (dg 10 v.toInt.natAbs) n ((n : Int) - 1 - pe) = 0
      · rw [t2 z]; omega
      · rw [t1 z]; omega
    obtain ⟨k', l', e2, r2⟩ := expP_ref (s := s) (be := pe) hN r1 g2 fl s1 s2 p1 (by omega) g1 g3 t1 ht30 h3 h4
    rw [e2, b2s]
    exact ⟨k', l', _, _, _, rfl, r2⟩
  rw [if_neg q2, if_neg q2, if_neg q1]
  have hpr : ∀ (X : Int32 → Option ((Nat → Int32) × Int32 × (Nat → Int32) × Int32 × Int32)), (if zI pe = 0 then X 1 else X (zI pe)) = X (zI (max pe 1)) := by
    intro X
    by_cases z : pe = 0
    · rw [if_pos (by rw [z]; rfl), z]; rfl
    · rw [if_neg (by rw [zI_lit, zI_eq (by omega) (by omega) (by omega) (by omega)]; exact z), show max pe 1 = pe by omega]
  rw [hpr (fun y => mm_b5 (f_Mo_general N fl 20200 piece size 64 F (zI (m : Int)) (zI ((m : Int) - s)) y) (fun a b c d e => some (a, b, c, d, e)))]
  have hq : 1 ≤ max pe 1 ∧ max pe 1 ≤ 9999 := by omega
  generalize max pe 1 = q at hq ⊢
  show ∃ k' l' F' m' pt', mm_b5 (f_Mo_general N fl 20200 piece size 64 F (zI (m : Int)) (zI ((m : Int) - s)) (zI q)) (fun a b c d e => some (a, b, c, d, e)) = some (k', l', F', m', pt') ∧ _
  unfold f_Mo_general genP
  have hz := isZ_ok hN h
  by_cases z : n = 0
  · obtain ⟨a1, a2⟩ := rnd_le0 (E := dg 10 v.toInt.natAbs) (n := n) (D := (n : Int) - q) (by omega)
    rw [a1, a2, hz.1 (fun i => hn.1 i (by omega)), b1s, if_neg n10, show zI q - 1 = zI (q - 1) from zI_sub _ 1]
    have hx : xOf n s = 0 := by unfold xOf; rw [if_pos z]
    rw [hx, if_neg (by omega)]
    obtain ⟨k', l', e2, r2⟩ := fixP_ref (n := n) (s := s) (be := q - 1) hN h h10 fl s1 s2 (by omega) (by omega) (by omega) h3 h4
    rw [show (m : Int) - s = (m : Int) - 1 + 1 - s by omega, e2, b2s, b5s, show q - 1 - 0 = q - 1 by omega]
    exact ⟨k', l', _, _, _, rfl, r2⟩
  · rw [hz.2 ⟨n - 1, by rcases hn.2 with w | w; exact absurd w z; exact w⟩, b1s, if_pos rfl]
    obtain ⟨F', m', top', e1, r1, t1, t2⟩ := keep_ok (n := n) (pz := (m : Int) - s) (nn := q) hN h h10 h1 (by omega) hn.1 hn.2 hm (by omega) (by omega) (by omega) (by omega)
    rw [show (m : Int) - q = (n : Int) - q by omega] at r1 t1 t2
    obtain ⟨g1, g2, g3⟩ := rnd_facts (D := (n : Int) - q) hn (by omega) (by omega)
    have hnz : rndN (dg 10 v.toInt.natAbs) n ((n : Int) - q) ≠ 0 := by
      intro w
      rcases rndN_0 w with w | w <;> omega
    have t1 := t1 hnz
    rw [e1, b3s, show (m : Int) - s + (top' - ((m : Int) - 1)) = top' + 1 - s by omega]
    generalize rndE (dg 10 v.toInt.natAbs) n ((n : Int) - q) = E' at *
    generalize rndN (dg 10 v.toInt.natAbs) n ((n : Int) - q) = n' at *
    have hx : xOf n' s = top' - s := by unfold xOf; rw [if_neg hnz, t1]
    have t0 := r1.2.2.2.2.2
    rw [hx, show zI (top' + 1 - s) - (1 : Int32) = zI (top' - s) by rw [zI_lit, zI_sub]; congr 1; omega, show (-4 : Int32) = zI (-4) from rfl, show zI q - (1 : Int32) = zI (q - 1) from zI_sub _ 1, zI_sub]
    by_cases a1 : top' - s < -4
    · rw [if_pos (by rw [zI_lt (by omega) (by omega) (by omega) (by omega)]; exact a1), if_pos (Or.inl a1)]
      obtain ⟨k', l', e2, r2⟩ := expP_ref (s := s) (be := q - 1) hN r1 g2 fl s1 s2 (by omega) (by omega) g1 g3 (fun _ => t1) (by omega) h3 h4
      rw [e2, b2s, b5s]
      exact ⟨k', l', _, _, _, rfl, r2⟩
    · rw [if_neg (by rw [zI_lt (by omega) (by omega) (by omega) (by omega)]; exact a1)]
      by_cases a2 : q ≤ top' - s
      · rw [if_pos (by rw [zI_le (by omega) (by omega) (by omega) (by omega)]; exact a2), if_pos (Or.inr a2)]
        obtain ⟨k', l', e2, r2⟩ := expP_ref (s := s) (be := q - 1) hN r1 g2 fl s1 s2 (by omega) (by omega) g1 g3 (fun _ => t1) (by omega) h3 h4
        rw [e2, b2s, b5s]
        exact ⟨k', l', _, _, _, rfl, r2⟩
      · rw [if_neg (by rw [zI_le (by omega) (by omega) (by omega) (by omega)]; exact a2), if_neg (by omega)]
        obtain ⟨k', l', e2, r2⟩ := fixP_ref (n := n') (s := s) (be := q - 1 - (top' - s)) hN r1 g2 fl s1 s2 (by omega) (by omega) (by rw [t1]; congr 1; omega) h3 h4
        rw [e2, b2s, b5s]
        exact ⟨k', l', _, _, _, rfl, r2⟩
variable {sizes : Nat → Int32} {values : Nat → Int64} {a : Nat}
theorem aok (ha : a < 9) : ¬ (zI (a : Int) < 0 ∨ 9 ≤ (zI (a : Int)).toNatClampNeg) := by
  rw [zI_nat (by omega) (by omega), zI_lit, zI_lt (by omega) (by omega) (by omega) (by omega)]
  omega
theorem aok2 (ha : a < 9) : ¬ (zI (a : Int) < 0 ∨ 9 ≤ a) := by
  rw [zI_lit, zI_lt (by omega) (by omega) (by omega) (by omega)]
  omega
theorem anat (ha : a < 9) : (zI (a : Int)).toNatClampNeg = a := by
  rw [zI_nat (by omega) (by omega)]
  omega
theorem numeric_313 (fl : Int32) {piece : Nat → Int32} {size : Int32} {l : List Int32} (h3 : rwL 20200 piece size l) (h4 : l.length ≤ 20000) (fr pd : Int32) (F : Nat → Int32) (mn pt x5 : Int32) : ∃ (k' : Nat → Int32) (l' : Int32), f_Mo_numeric_313 fl 20200 piece size fr pd F mn pt x5 = some (k', l', fr, pd, F, mn, pt) ∧ rwL 20200 k' l' (l ++ (if x5 = 0 then [] else if fl &&& 32 = 0 then [] else [41])) := by
  unfold f_Mo_numeric_313
  simp only [mo_has, show flg 40 = 32 from by decide, b1s, hz1]
  by_cases q : x5 = 0
  · rw [if_pos q, if_pos q, List.append_nil]
    exact ⟨piece, size, rfl, h3⟩
  · rw [if_neg q, if_neg q]
    by_cases q2 : fl &&& 32 = 0
    · rw [if_pos q2, if_pos q2, List.append_nil]
      exact ⟨piece, size, rfl, h3⟩
    · rw [if_neg q2, if_neg q2]
      obtain ⟨k1, l1, e1, r1⟩ := row_put (c := 41) (by decide) h3 (ck_z (z := 41) (by omega) (by omega)) (by omega)
      rw [e1, b2s]
      exact ⟨k1, l1, rfl, r1⟩
theorem sgnP_len {v : Int64} (hn : isN (dg 10 v.toInt.natAbs) n) {s pe : Int} (s1 : 0 ≤ s) (s2 : s ≤ 40) (p1 : 0 ≤ pe) (p2 : pe ≤ 9999) (ch fl : Int32) : (sgnP ch (dg 10 v.toInt.natAbs) n s pe fl).length ≤ 10200 := by
  have h20 := isN_20 (natAbs_lt v) hn
  unfold sgnP genP
  split
  · have := fixP_len (dg 10 v.toInt.natAbs) (be := 0) fl (show n ≤ 23 by omega) s1
    omega
  · split
    · have := expP_len (rndE (dg 10 v.toInt.natAbs) n ((n : Int) - 1 - pe)) (n := rndN (dg 10 v.toInt.natAbs) n ((n : Int) - 1 - pe)) (s := s) (be := pe) fl
      omega
    · split
      · have g := rnd_facts (D := s - pe) hn (by omega) (by omega)
        have := fixP_len (rndE (dg 10 v.toInt.natAbs) n (s - pe)) (be := pe) fl g.2.2 s1
        omega
      · have g := rnd_facts (D := (n : Int) - max pe 1) hn (by omega) (by omega)
        have := fixP_len (rndE (dg 10 v.toInt.natAbs) n ((n : Int) - max pe 1)) (be := max pe 1 - 1 - xOf (rndN (dg 10 v.toInt.natAbs) n ((n : Int) - max pe 1)) s) fl g.2.2 s1
        have := expP_len (rndE (dg 10 v.toInt.natAbs) n ((n : Int) - max pe 1)) (n := rndN (dg 10 v.toInt.natAbs) n ((n : Int) - max pe 1)) (s := s) (be := max pe 1 - 1) fl
        split <;> omega
theorem numeric_161s (hN : 1000000 < N) (ha : a < 9) {v : Int64} (hv : values a = v) (hn : isN (dg 10 v.toInt.natAbs) n) {s pr pe : Int} (s1 : 0 ≤ s) (s2 : s ≤ 40) (p1 : -1 ≤ pr) (p2 : pr ≤ 9999) (hpe : pe = if pr = -1 then 6 else pr) {ch : Int32} (hs : ch = 100 → s = 0) (hsz : ch ≠ 100 → sizes a = zI s) (fl : Int32) {piece : Nat → Int32} {size : Int32} {l : List Int32} (h3 : rwL 20200 piece size l) (h4 : l.length ≤ 4000) (fr pd : Int32) (F : Nat → Int32) (mn pt x5 : Int32) :
    ∃ (k' : Nat → Int32) (l' : Int32) (F' : Nat → Int32) (m' pt' : Int32), f_Mo_numeric_161 N 9 sizes 9 values fl (zI pr) (zI (a : Int)) 20200 64 ch piece size fr pd F mn pt v 1 x5 = some (k', l', size, pd, F', m', pt') ∧ rwL 20200 k' l' (l ++ (sgnP ch (dg 10 v.toInt.natAbs) n s pe fl ++ (if x5 = 0 then [] else if fl &&& 32 = 0 then [] else [41]))) := by
  have hpe2 : 0 ≤ pe ∧ pe ≤ 9999 := by rw [hpe]; split <;> omega
  have h20 := isN_20 (natAbs_lt v) hn
  have hL := sgnP_len hn s1 s2 hpe2.1 hpe2.2 ch fl
  obtain ⟨F', m, e1, r1, m1, m2, m3⟩ := spread_ok (b := 10) hN (Or.inr (Or.inl rfl)) (natAbs_lt v) F pt
  have hm := RF_m hn r1 m1 m3
  have hfin : ∀ (ka : Nat → Int32) (la : Int32) (F2 : Nat → Int32) (mn2 pt2 : Int32), rwL 20200 ka la (l ++ sgnP ch (dg 10 v.toInt.natAbs) n s pe fl) → ∃ (k' : Nat → Int32) (l' : Int32) (F' : Nat → Int32) (m' pt' : Int32), f_Mo_numeric_313 fl 20200 ka la size pd F2 mn2 pt2 x5 = some (k', l', size, pd, F', m', pt') ∧ rwL 20200 k' l' (l ++ (sgnP ch (dg 10 v.toInt.natAbs) n s pe fl ++ (if x5 = 0 then [] else if fl &&& 32 = 0 then [] else [41]))) := by
    intro ka la F2 mn2 pt2 hr
    obtain ⟨k', l', e, r⟩ := numeric_313 fl hr (by rw [List.length_append]; omega) size pd F2 mn2 pt2 x5
    rw [List.append_assoc] at r
    exact ⟨k', l', _, _, _, e, r⟩
  unfold f_Mo_numeric_161
  by_cases q : ch = 100
  · rw [if_pos q, size64_ok, b1s, show (10 : Int32) = zI ((10 : Nat) : Int) from rfl, e1, b3s]
    obtain ⟨k2, l2, e2, r2⟩ := fixP_ref (n := n) (s := 0) (be := 0) hN r1 (dg10 _) fl (by omega) (by omega) (by omega) (by omega) (by omega) h3 h4
    rw [show (m : Int) - 1 + 1 - 0 = (m : Int) by omega, show zI 0 = (0 : Int32) from rfl] at e2
    rw [e2, b2s]
    refine hfin k2 l2 _ _ _ ?_
    unfold sgnP
    rw [if_pos q, hs q]
    exact r2
  · rw [if_neg q, if_neg n10]
    unfold f_Mo_decimal_1
    rw [if_neg (aok ha), anat ha, hv, size64_ok, b1s, show (10 : Int32) = zI ((10 : Nat) : Int) from rfl, e1, b3s, if_neg (aok2 ha), hsz q, zI_sub]
    obtain ⟨k2, l2, F2, m2', pt2, e2, r2⟩ := decimal_52 (s := s) (pe := pe) hN hn r1 m1 m3 fl s1 s2 hpe2.1 hpe2.2 q h3 h4
    have hif : ∀ (X : Int32 → Option ((Nat → Int32) × Int32 × (Nat → Int32) × Int32 × Int32)), (if (0 : Int32) ≤ zI pr then X (zI pr) else X 6) = X (zI pe) := by
      intro X
      rw [hpe]
      by_cases w : pr = -1
      · rw [if_neg (by rw [zI_lit, zI_le (by omega) (by omega) (by omega) (by omega)]; omega), if_pos w]; rfl
      · rw [if_pos (by rw [zI_lit, zI_le (by omega) (by omega) (by omega) (by omega)]; omega), if_neg w]
    rw [hif (fun y => f_Mo_decimal_1_52 N fl 20200 64 ch piece size F' (zI (m : Int)) (zI ((m : Int) - s)) y)]
    simp only [e2]
    rw [b5s]
    exact hfin k2 l2 _ _ _ r2
theorem numeric_128s (hN : 1000000 < N) (ha : a < 9) {v : Int64} (hv : values a = v) (hn : isN (dg 10 v.toInt.natAbs) n) {s pr pe : Int} (s1 : 0 ≤ s) (s2 : s ≤ 40) (p1 : -1 ≤ pr) (p2 : pr ≤ 9999) (hpe : pe = if pr = -1 then 6 else pr) {ch : Int32} (hs : ch = 100 → s = 0) (hsz : ch ≠ 100 → sizes a = zI s) (fl : Int32) {piece : Nat → Int32} {size : Int32} {l : List Int32} (h3 : rwL 20200 piece size l) (h4 : l.length ≤ 4000) (fr pd : Int32) (F : Nat → Int32) (mn pt x5 : Int32) :
    ∃ (k' : Nat → Int32) (l' : Int32) (F' : Nat → Int32) (m' pt' : Int32), f_Mo_numeric_128 N 9 sizes 9 values fl (zI pr) (zI (a : Int)) 20200 64 ch piece size fr pd F mn pt v 1 x5 = some (k', l', zI (l.length : Int), pd, F', m', pt') ∧ rwL 20200 k' l' (l ++ (sgnP ch (dg 10 v.toInt.natAbs) n s pe fl ++ (if x5 = 0 then [] else if fl &&& 32 = 0 then [] else [41]))) := by
  unfold f_Mo_numeric_128
  rw [if_neg n10, ← h3.1]
  exact numeric_161s hN ha hv hn s1 s2 p1 p2 hpe hs hsz fl h3 h4 fr pd F mn pt x5
theorem signed_ref (hN : 1000000 < N) (ha : a < 9) {v : Int64} (hv : values a = v) (hn : isN (dg 10 v.toInt.natAbs) n) {s pr pe : Int} (s1 : 0 ≤ s) (s2 : s ≤ 40) (p1 : -1 ≤ pr) (p2 : pr ≤ 9999) (hpe : pe = if pr = -1 then 6 else pr) {ch : Int32} (hs : ch = 100 → s = 0) (hsz : ch ≠ 100 → sizes a = zI s) (ho : ch ≠ 111) (hx : ch ≠ 120) (fl : Int32) {piece : Nat → Int32} {size : Int32} (h3 : rwL 20200 piece size []) (fr : Int32) (F : Nat → Int32) (mn pt : Int32) :
    ∃ (k' : Nat → Int32) (l' : Int32) (F' : Nat → Int32) (m' pt' : Int32), f_Mo_numeric N 9 sizes 9 values fl (zI pr) (zI (a : Int)) 20200 piece size fr 64 F mn pt ch = some (k', l', zI ((preP fl v.toInt).length : Int), (if fl &&& 8 = 0 then 0 else 1), F', m', pt') ∧ rwL 20200 k' l' (preP fl v.toInt ++ (sgnP ch (dg 10 v.toInt.natAbs) n s pe fl ++ sufP fl v.toInt)) := by
  have hput : ∀ (ch0 : Int32), ck ch0 → ∃ (k' : Nat → Int32) (l' : Int32), f_Mo_put 20200 piece size ch0 = some (k', l') ∧ rwL 20200 k' l' [ch0] := fun ch0 hc0 => row_put (by decide) h3 hc0 (by simp)
  have hgo : ∀ (ka : Nat → Int32) (la : Int32) (L : List Int32) (pd x5 : Int32), L.length ≤ 1 → rwL 20200 ka la L → ∃ (k' : Nat → Int32) (l' : Int32) (F' : Nat → Int32) (m' pt' : Int32), f_Mo_numeric_128 N 9 sizes 9 values fl (zI pr) (zI (a : Int)) 20200 64 ch ka la fr pd F mn pt v 1 x5 = some (k', l', zI (L.length : Int), pd, F', m', pt') ∧ rwL 20200 k' l' (L ++ (sgnP ch (dg 10 v.toInt.natAbs) n s pe fl ++ (if x5 = 0 then [] else if fl &&& 32 = 0 then [] else [41]))) :=
    fun ka la L pd x5 hL hr => numeric_128s hN ha hv hn s1 s2 p1 p2 hpe hs hsz fl hr (by omega) fr pd F mn pt x5
  unfold f_Mo_numeric f_Mo_numeric_37 f_Mo_numeric_54 f_Mo_numeric_55 f_Mo_numeric_108 f_Mo_numeric_125 f_Mo_numeric_79
  have hpd : ((if fl &&& 8 = 0 then (0 : Int32) else 1) = 0 ∨ (if fl &&& 8 = 0 then (0 : Int32) else 1) = 1) := by
    by_cases q : fl &&& 8 = 0
    · rw [if_pos q]; exact Or.inl rfl
    · rw [if_neg q]; exact Or.inr rfl
  rw [if_neg (aok ha), anat ha, hv, mo_has, show flg 48 = 8 from by decide, b1s, if_pos hpd, if_neg ho, if_neg hx]
  generalize (if fl &&& 8 = 0 then (0 : Int32) else 1) = pd
  unfold preP sufP
  simp only [lg0, mo_has, b1s, hz1, ↓reduceIte, n10, show flg 43 = 4 from by decide, show flg 32 = 128 from by decide, show flg 40 = 32 from by decide]
  by_cases q : 0 ≤ v.toInt
  · have hlt : ¬ v.toInt < 0 := by omega
    by_cases q1 : fl &&& 4 = 0
    · by_cases q2 : fl &&& 128 = 0
      · simp only [if_pos q, if_neg hlt, if_pos q1, if_pos q2]
        obtain ⟨k', l', F', m', pt', e, r⟩ := hgo piece size [] pd 0 (by simp) h3
        rw [if_pos rfl] at r
        exact ⟨k', l', F', m', pt', e, r⟩
      · simp only [if_pos q, if_neg hlt, if_pos q1, if_neg q2]
        obtain ⟨ka, la, ea, ra⟩ := hput 32 (ck_z (z := 32) (by omega) (by omega))
        obtain ⟨k', l', F', m', pt', e, r⟩ := hgo ka la [32] pd 0 (by simp) ra
        rw [ea, b2s]
        rw [if_pos rfl] at r
        exact ⟨k', l', F', m', pt', e, r⟩
    · simp only [if_pos q, if_neg hlt, if_neg q1]
      obtain ⟨ka, la, ea, ra⟩ := hput 43 (ck_z (z := 43) (by omega) (by omega))
      obtain ⟨k', l', F', m', pt', e, r⟩ := hgo ka la [43] pd 0 (by simp) ra
      rw [ea, b2s]
      rw [if_pos rfl] at r
      exact ⟨k', l', F', m', pt', e, r⟩
  · have hlt : v.toInt < 0 := by omega
    by_cases q1 : fl &&& 32 = 0
    · simp only [if_neg q, if_pos hlt, if_pos q1]
      obtain ⟨ka, la, ea, ra⟩ := hput 45 (ck_z (z := 45) (by omega) (by omega))
      obtain ⟨k', l', F', m', pt', e, r⟩ := hgo ka la [45] pd 1 (by simp) ra
      rw [ea, b2s]
      rw [if_neg n10, if_pos q1] at r
      exact ⟨k', l', F', m', pt', e, r⟩
    · simp only [if_neg q, if_pos hlt, if_neg q1]
      obtain ⟨ka, la, ea, ra⟩ := hput 40 (ck_z (z := 40) (by omega) (by omega))
      obtain ⟨k', l', F', m', pt', e, r⟩ := hgo ka la [40] pd 1 (by simp) ra
      rw [ea, b2s]
      rw [if_neg n10, if_neg q1] at r
      exact ⟨k', l', F', m', pt', e, r⟩
end PUnumeric
