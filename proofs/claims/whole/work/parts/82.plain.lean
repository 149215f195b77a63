section PUplain
theorem row_put {n : Nat} {kept : Nat → Int32} {len : Int32} {l : List Int32} {c : Int32} (hn : n < 1000000) (h : rwL n kept len l) (hc : ck c) (hl : l.length < n) : ∃ k' l', f_Mo_put n kept len c = some (k', l') ∧ rwL n k' l' (l ++ [c]) := by
  obtain ⟨k1, l1, e1, r1⟩ := row_add hn h hc (by omega)
  refine ⟨k1, l1, ?_, r1⟩
  rw [← e1]
  obtain ⟨rfl, hb, hk⟩ := h
  unfold f_Mo_put f_Row_add f_Row_add_29
  rw [ck_nar hc]
  simp (disch := omega) only [zI_lit, zI_n, zI_add, zI_sub, zI_mul, zI_neg, zI_le, zI_lt, zI_eq, zI_nat]
  rw [if_neg (by omega), if_neg (by omega), if_neg (by omega)]
variable {F : Nat → Int32} {many : Int32} {E : Nat → Nat} {top : Int} {m : Nat}
theorem fig_put (h : RF F many E top m) (h10 : ∀ i, E i < 10) {k : Int} (k1 : -100000 ≤ k) (k2 : k ≤ 100000) {piece : Nat → Int32} {size : Int32} {l : List Int32} (hr : rwL 20200 piece size l) (hl : l.length < 20200) : ∃ r k' l', f_Mo_figureAt 64 F many (zI k) = some r ∧ f_Mo_put 20200 piece size ((48 : Int32) + r) = some (k', l') ∧ rwL 20200 k' l' (l ++ [kByt 6 (eZ E (top - k))]) := by
  have he := eZ_lt h10 (by omega) (top - k)
  obtain ⟨ka, la, e1, r1⟩ := row_put (by decide) hr (eZ_ck (E := E) (fun i => Nat.lt_trans (h10 i) (by omega)) (top - k)) hl
  refine ⟨_, ka, la, figAt h k1 k2, ?_, r1⟩
  rw [← e1, sg_10 _ he, zI_lit, zI_add]
theorem plain_103 {N : Nat} (h : RF F many E top m) (h10 : ∀ i, E i < 10) {p be : Int} (p1 : -1000 ≤ p) (p2 : p ≤ 1000) (b1 : 0 ≤ be) (b2 : be ≤ 20000) : ∀ (k fuel i : Nat) (piece : Nat → Int32) (size : Int32) (l : List Int32), (i : Int) + k = be → k < fuel → rwL 20200 piece size l → l.length + k ≤ 20200 → ∃ k' l', f_Mo_plain_103 20200 64 F many (zI p) (zI be) fuel piece size (zI (i : Int)) = some (k', l') ∧ rwL 20200 k' l' (l ++ fracL E (top - p - i) k) := by
  intro k
  induction k with
  | zero =>
    intro fuel i piece size l h1 h2 h3 h4
    obtain ⟨fu, rfl, -⟩ := fuelS h2
    rw [f_Mo_plain_103, if_pos (by rw [zI_le (by omega) (by omega) (by omega) (by omega)]; omega)]
    refine ⟨_, _, rfl, ?_⟩
    rw [fracL, List.append_nil]
    exact h3
  | succ k ih =>
    intro fuel i piece size l h1 h2 h3 h4
    obtain ⟨fu, rfl, hfu⟩ := fuelS h2
    obtain ⟨r, k1, l1, e0, e1, r1⟩ := fig_put h h10 (k := p + i) (by omega) (by omega) h3 (by omega)
    rw [f_Mo_plain_103, if_neg (by rw [zI_le (by omega) (by omega) (by omega) (by omega)]; omega), zI_add, e0, b1s, e1, b2s, show zI (i : Int) + 1 = zI ((i : Int) + 1) from zI_add _ 1, cast1 i]
    obtain ⟨k2, l2, e2, r2⟩ := ih fu (i + 1) k1 l1 _ (by omega) (by omega) r1 (by rw [List.length_append, List.length_singleton]; omega)
    refine ⟨k2, l2, e2, ?_⟩
    rw [fracL]
    rw [List.append_assoc] at r2
    rw [show top - p - (i : Int) = top - (p + i) by omega, show top - (p + (i : Int)) - 1 = top - p - ((i + 1 : Nat) : Int) by omega]
    exact r2
theorem flg_35 : flg 35 = 2 := by decide
theorem flg_44 : flg 44 = 16 := by decide
theorem plain_tail {N : Nat} (hN : 1000000 < N) (h : RF F many E top m) (h10 : ∀ i, E i < 10) (fl : Int32) {p be : Int} (p1 : -1000 ≤ p) (p2 : p ≤ 1000) (b1 : 0 ≤ be) (b2 : be ≤ 20000) {piece : Nat → Int32} {size : Int32} {l : List Int32} (h3 : rwL 20200 piece size l) (h4 : l.length + be.toNat + 1 ≤ 20200) :
    ∃ k' l', (if 0 < zI be then mm_b2 (f_Mo_put 20200 piece size (46 : Int32)) (fun o_1 o_2 => f_Mo_plain_103 20200 64 F many (zI p) (zI be) N o_1 o_2 (0 : Int32)) else mm_b1 (f_Mo_has fl (35 : Int32)) (fun r_6 => (if r_6 = 0 then f_Mo_plain_103 20200 64 F many (zI p) (zI be) N piece size (0 : Int32) else mm_b2 (f_Mo_put 20200 piece size (46 : Int32)) (fun o_7 o_8 => f_Mo_plain_103 20200 64 F many (zI p) (zI be) N o_7 o_8 (0 : Int32))))) = some (k', l') ∧ rwL 20200 k' l' (l ++ bhL E (top - p) be.toNat (fl &&& 2 ≠ 0)) := by
  obtain ⟨k1, l1, e1, r1⟩ := row_put (c := 46) (by decide) h3 (ck_z (z := 46) (by omega) (by omega)) (by omega)
  obtain ⟨k2, l2, e2, r2⟩ := plain_103 (N := N) h h10 p1 p2 b1 b2 be.toNat N 0 k1 l1 _ (by omega) (by omega) r1 (by rw [List.length_append, List.length_singleton]; omega)
  obtain ⟨k3, l3, e3, r3⟩ := plain_103 (N := N) h h10 p1 p2 b1 b2 be.toNat N 0 piece size l (by omega) (by omega) h3 (by omega)
  rw [show zI ((0 : Nat) : Int) = (0 : Int32) from rfl] at e2 e3
  rw [show top - p - ((0 : Nat) : Int) = top - p by omega] at r2 r3
  rw [e1, b2s, e2, e3, mo_has, flg_35, b1s]
  rw [List.append_assoc] at r2
  unfold bhL
  by_cases q : 0 < be
  · rw [if_pos (by rw [zI_lit, zI_lt (by omega) (by omega) (by omega) (by omega)]; exact q), if_pos (show 0 < be.toNat ∨ fl &&& 2 ≠ 0 from Or.inl (by omega))]
    exact ⟨k2, l2, rfl, r2⟩
  · rw [if_neg (by rw [zI_lit, zI_lt (by omega) (by omega) (by omega) (by omega)]; exact q)]
    by_cases q2 : fl &&& 2 = 0
    · rw [if_pos q2, if_pos rfl, if_neg (show ¬ (0 < be.toNat ∨ fl &&& 2 ≠ 0) from fun h => h.elim (fun h => by omega) (fun h => h q2))]
      exact ⟨k3, l3, rfl, r3⟩
    · rw [if_neg q2, if_neg n10, if_pos (show 0 < be.toNat ∨ fl &&& 2 ≠ 0 from Or.inr q2)]
      exact ⟨k2, l2, rfl, r2⟩
theorem plain_21 {N : Nat} (hN : 1000000 < N) (h : RF F many E top m) (h10 : ∀ i, E i < 10) (fl : Int32) {p be x2 : Int} (p1 : -500 ≤ p) (p2 : p ≤ 500) (b1 : 0 ≤ be) (b2 : be ≤ 20000) (x21 : -900 ≤ x2) : ∀ (t fuel : Nat) (piece : Nat → Int32) (size : Int32) (l : List Int32), t < 300 → t < fuel → rwL 20200 piece size l → l.length + 2 * t + be.toNat + 2 ≤ 20200 → x2 < p - t → ∃ k' l', f_Mo_plain_21 N fl 20200 64 F many (zI p) (zI be) fuel piece size (zI x2) (zI (p - t)) = some (k', l') ∧ rwL 20200 k' l' (l ++ ((cmL (fl &&& 16 ≠ 0) t ++ intL E (top + 1 - p) (fl &&& 16 ≠ 0) t) ++ bhL E (top - p) be.toNat (fl &&& 2 ≠ 0))) := by
  intro t
  induction t with
  | zero =>
    intro fuel piece size l h1 h2 h3 h4 h5
    obtain ⟨fu, rfl, -⟩ := fuelS h2
    rw [f_Mo_plain_21, if_pos (by rw [zI_le (by omega) (by omega) (by omega) (by omega)]; omega)]
    have e0 : cmL (fl &&& 16 ≠ 0) 0 ++ intL E (top + 1 - p) (fl &&& 16 ≠ 0) 0 = [] := by
      unfold cmL
      rw [if_neg (by omega)]
      rfl
    rw [e0, List.nil_append]
    exact plain_tail hN h h10 fl (by omega) (by omega) b1 b2 h3 (by omega)
  | succ t ih =>
    intro fuel piece size l h1 h2 h3 h4 h5
    obtain ⟨fu, rfl, hfu⟩ := fuelS h2
    rw [f_Mo_plain_21, if_neg (by rw [zI_le (by omega) (by omega) (by omega) (by omega)]; omega), mo_has, flg_44, b1s]
    have hpos : top - (p - ((t + 1 : Nat) : Int)) = (t : Int) + (top + 1 - p) := by omega
    have hnx : zI (p - ((t + 1 : Nat) : Int)) + 1 = zI (p - (t : Int)) := by rw [zI_lit, zI_add]; congr 1; omega
    have h64 : ∀ (piece : Nat → Int32) (size : Int32) (l : List Int32), rwL 20200 piece size l → l.length + 2 * t + 1 + be.toNat + 2 ≤ 20200 → ∃ k' l', f_Mo_plain_64 20200 64 F many (f_Mo_plain_21 N fl 20200 64 F many (zI p) (zI be) fu) piece size (zI x2) (zI (p - ((t + 1 : Nat) : Int))) = some (k', l') ∧ rwL 20200 k' l' (l ++ (intL E (top + 1 - p) (fl &&& 16 ≠ 0) (t + 1) ++ bhL E (top - p) be.toNat (fl &&& 2 ≠ 0))) := by
      intro piece size l h6 h7
      unfold f_Mo_plain_64
      obtain ⟨r, k1, l1, e0, e1, r1⟩ := fig_put h h10 (k := p - ((t + 1 : Nat) : Int)) (by omega) (by omega) h6 (by omega)
      rw [e0, b1s, e1, b2s, hnx]
      obtain ⟨k2, l2, e2, r2⟩ := ih fu k1 l1 _ (by omega) (by omega) r1 (by rw [List.length_append, List.length_singleton]; omega) (by omega)
      refine ⟨k2, l2, e2, ?_⟩
      rw [intL, ← hpos]
      rw [List.append_assoc] at r2
      exact r2
    obtain ⟨k3, l3, e3, r3⟩ := h64 piece size l h3 (by omega)
    obtain ⟨k4, l4, e4, r4⟩ := row_put (c := 44) (by decide) h3 (ck_z (z := 44) (by omega) (by omega)) (by omega)
    obtain ⟨k5, l5, e5, r5⟩ := h64 k4 l4 _ r4 (by rw [List.length_append, List.length_singleton]; omega)
    rw [e4, b2s, e3, e5]
    have hmod : (zI p - zI (p - ((t + 1 : Nat) : Int)) - (zI p - zI (p - ((t + 1 : Nat) : Int))) / (3 : Int32) * (3 : Int32) = 0) = ((t + 1) % 3 = 0) := by
      rw [zI_sub, show p - (p - ((t + 1 : Nat) : Int)) = ((t + 1 : Nat) : Int) by omega]
      exact mod3 (t + 1) (by omega)
    unfold cmL
    by_cases q1 : fl &&& 16 = 0
    · rw [if_pos q1, if_pos rfl, if_neg (show ¬ (fl &&& 16 ≠ 0 ∧ 0 < t + 1 ∧ (t + 1) % 3 = 0) from fun hh => hh.1 q1), List.nil_append]
      exact ⟨k3, l3, rfl, r3⟩
    · rw [if_neg q1, if_neg n10, if_neg (show ¬ zI (p - ((t + 1 : Nat) : Int)) ≤ zI x2 by rw [zI_le (by omega) (by omega) (by omega) (by omega)]; omega)]
      by_cases q2 : (t + 1) % 3 = 0
      · rw [if_pos (by rw [hmod]; exact q2), if_pos ⟨q1, by omega, q2⟩]
        refine ⟨k5, l5, rfl, ?_⟩
        rw [List.append_assoc] at r5
        rw [List.append_assoc]
        exact r5
      · rw [if_neg (by rw [hmod]; exact q2), if_neg (show ¬ (fl &&& 16 ≠ 0 ∧ 0 < t + 1 ∧ (t + 1) % 3 = 0) from fun hh => q2 hh.2.2), List.nil_append]
        exact ⟨k3, l3, rfl, r3⟩
theorem plain_first {N : Nat} (hN : 1000000 < N) (h : RF F many E top m) (h10 : ∀ i, E i < 10) (fl : Int32) {p be : Int} (p1 : -500 ≤ p) (p2 : p ≤ 200) (b1 : 0 ≤ be) (b2 : be ≤ 20000) {t : Nat} (ht : t < 299) {piece : Nat → Int32} {size : Int32} {l : List Int32} (h3 : rwL 20200 piece size l) (h4 : l.length + 2 * t + be.toNat + 3 ≤ 20200) : ∃ k' l', f_Mo_plain_21 N fl 20200 64 F many (zI p) (zI be) N piece size (zI (p - ((t + 1 : Nat) : Int))) (zI (p - ((t + 1 : Nat) : Int))) = some (k', l') ∧ rwL 20200 k' l' (l ++ (intL E (top + 1 - p) (fl &&& 16 ≠ 0) (t + 1) ++ bhL E (top - p) be.toNat (fl &&& 2 ≠ 0))) := by
  obtain ⟨fu, rfl, hfu⟩ := fuelS (show 1000000 < N by omega)
  have hpos : top - (p - ((t + 1 : Nat) : Int)) = (t : Int) + (top + 1 - p) := by omega
  have hnx : zI (p - ((t + 1 : Nat) : Int)) + 1 = zI (p - (t : Int)) := by rw [zI_lit, zI_add]; congr 1; omega
  rw [f_Mo_plain_21, if_neg (by rw [zI_le (by omega) (by omega) (by omega) (by omega)]; omega), mo_has, flg_44, b1s, if_pos (show zI (p - ((t + 1 : Nat) : Int)) ≤ zI (p - ((t + 1 : Nat) : Int)) by rw [zI_le (by omega) (by omega) (by omega) (by omega)]; omega)]
  rw [show ∀ (a : Option ((Nat → Int32) × Int32)) (q : Prop) [Decidable q], (if q then a else a) = a from fun a q _ => by split <;> rfl]
  unfold f_Mo_plain_64
  obtain ⟨r, k1, l1, e0, e1, r1⟩ := fig_put h h10 (k := p - ((t + 1 : Nat) : Int)) (by omega) (by omega) h3 (by omega)
  rw [e0, b1s, e1, b2s, hnx]
  obtain ⟨k2, l2, e2, r2⟩ := plain_21 (N := fu + 1) (x2 := p - ((t + 1 : Nat) : Int)) hN h h10 fl p1 (by omega) b1 b2 (by omega) t fu k1 l1 _ (by omega) (by omega) r1 (by rw [List.length_append, List.length_singleton]; omega) (by omega)
  refine ⟨k2, l2, e2, ?_⟩
  rw [intL, ← hpos]
  rw [List.append_assoc] at r2
  exact r2
theorem plain_ok {N : Nat} (hN : 1000000 < N) (h : RF F many E top m) (h10 : ∀ i, E i < 10) (fl : Int32) {p be : Int} (p1 : -400 ≤ p) (p2 : p ≤ 200) (b1 : 0 ≤ be) (b2 : be ≤ 20000) {piece : Nat → Int32} {size : Int32} {l : List Int32} (h3 : rwL 20200 piece size l) (h4 : l.length + 2 * (max p 1).toNat + be.toNat + 3 ≤ 20200) : ∃ k' l', f_Mo_plain N fl 20200 piece size 64 F many (zI p) (zI be) = some (k', l') ∧ rwL 20200 k' l' (l ++ (intL E (top + 1 - p) (fl &&& 16 ≠ 0) (max p 1).toNat ++ bhL E (top - p) be.toNat (fl &&& 2 ≠ 0))) := by
  unfold f_Mo_plain
  by_cases q : 1 ≤ p
  · rw [if_pos (by rw [zI_lit, zI_le (by omega) (by omega) (by omega) (by omega)]; exact q)]
    obtain ⟨k', l', e, r⟩ := plain_first (t := (p - 1).toNat) hN h h10 fl (by omega) p2 b1 b2 (by omega) h3 (by omega)
    rw [show p - (((p - 1).toNat + 1 : Nat) : Int) = 0 by omega] at e
    rw [show (p - 1).toNat + 1 = (max p 1).toNat by omega] at r
    exact ⟨k', l', e, r⟩
  · rw [if_neg (by rw [zI_lit, zI_le (by omega) (by omega) (by omega) (by omega)]; exact q)]
    obtain ⟨k', l', e, r⟩ := plain_first (t := 0) hN h h10 fl (by omega) p2 b1 b2 (by omega) h3 (by omega)
    rw [show p - ((0 + 1 : Nat) : Int) = p - 1 by omega] at e
    rw [show 0 + 1 = (max p 1).toNat by omega] at r
    rw [zI_lit, zI_sub]
    exact ⟨k', l', e, r⟩
theorem expo_75 {piece : Nat → Int32} {size : Int32} {l : List Int32} (h3 : rwL 20200 piece size l) (h4 : l.length + 4 ≤ 20200) {x : Int} (x1 : -99 ≤ x) (x2 : x ≤ 99) : ∃ k' l', f_Mo_exponential_75 20200 piece size (zI x) = some (k', l') ∧ rwL 20200 k' l' (l ++ expL x) := by
  obtain ⟨k3, l3, e3, r3⟩ := row_put (c := 101) (by decide) h3 (ck_z (z := 101) (by omega) (by omega)) (by omega)
  have hfin : ∀ sg : Int32, ck sg → ∃ k' l', f_Mo_exponential_94 20200 k3 l3 (zI x) sg = some (k', l') ∧ rwL 20200 k' l' (l ++ [101] ++ [sg] ++ [zI (48 + ((x.natAbs / 10 % 10 : Nat) : Int))] ++ [zI (48 + ((x.natAbs % 10 : Nat) : Int))]) := by
    intro sg hsg
    obtain ⟨k4, l4, e4, r4⟩ := row_put (c := sg) (by decide) r3 hsg (by simp only [List.length_append, List.length_singleton]; omega)
    obtain ⟨k5, l5, e5, r5⟩ := row_put (by decide) r4 (ck_z (z := 48 + ((x.natAbs / 10 % 10 : Nat) : Int)) (by omega) (by omega)) (by simp only [List.length_append, List.length_singleton]; omega)
    obtain ⟨k6, l6, e6, r6⟩ := row_put (by decide) r5 (ck_z (z := 48 + ((x.natAbs % 10 : Nat) : Int)) (by omega) (by omega)) (by simp only [List.length_append, List.length_singleton]; omega)
    have h125 : f_Mo_exponential_107 20200 k4 l4 (zI (x.natAbs : Int)) = some (k6, l6) := by
      unfold f_Mo_exponential_107
      rw [if_pos (by rw [zI_lit, zI_le (by omega) (by omega) (by omega) (by omega)]; omega)]
      unfold f_Mo_exponential_125
      rw [m10 x.natAbs (by omega), d10 x.natAbs (by omega), m10 (x.natAbs / 10) (by omega), zI_lit, zI_add, zI_add, e5, b2s, e6, b2s]
    refine ⟨k6, l6, ?_, r6⟩
    unfold f_Mo_exponential_94
    rw [e4, b2s]
    by_cases q : 0 ≤ x
    · rw [if_pos (by rw [zI_lit, zI_le (by omega) (by omega) (by omega) (by omega)]; exact q), ← h125]; congr 2; omega
    · rw [if_neg (by rw [zI_lit, zI_le (by omega) (by omega) (by omega) (by omega)]; exact q), ← h125, zI_neg]; congr 2; omega
  unfold f_Mo_exponential_75 expL
  rw [e3, b2s]
  by_cases q : x < 0
  · obtain ⟨k', l', e7, r7⟩ := hfin 45 (ck_z (z := 45) (by omega) (by omega))
    rw [if_neg (by rw [show (0 : Int32) = zI 0 from rfl, zI_le (by omega) (by omega) (by omega) (by omega)]; omega)]
    refine ⟨k', l', e7, ?_⟩
    rw [if_pos q]
    simpa using r7
  · obtain ⟨k', l', e7, r7⟩ := hfin 43 (ck_z (z := 43) (by omega) (by omega))
    rw [if_pos (by rw [show (0 : Int32) = zI 0 from rfl, zI_le (by omega) (by omega) (by omega) (by omega)]; omega)]
    refine ⟨k', l', e7, ?_⟩
    rw [if_neg q]
    simpa using r7
theorem expo_38 (h : RF F many E top m) (h10 : ∀ i, E i < 10) {p be x : Int} (p1 : -99 ≤ p) (p2 : p ≤ 99) (b1 : 0 ≤ be) (b2 : be ≤ 20000) (z : Int32) (hx : x = if z = 0 then p - 1 else 0) : ∀ (k fuel i : Nat) (piece : Nat → Int32) (size : Int32) (l : List Int32), (i : Int) + k = be + 1 → k < fuel → rwL 20200 piece size l → l.length + k + 4 ≤ 20200 → -98 ≤ p → ∃ k' l', f_Mo_exponential_38 20200 64 F many (zI p) (zI be) fuel piece size z (zI (i : Int)) = some (k', l') ∧ rwL 20200 k' l' (l ++ (fracL E (top - i) k ++ expL x)) := by
  intro k
  induction k with
  | zero =>
    intro fuel i piece size l h1 h2 h3 h4 h5
    obtain ⟨fu, rfl, -⟩ := fuelS h2
    obtain ⟨k', l', e, r⟩ := expo_75 (x := x) h3 (by omega) (by rw [hx]; split <;> omega) (by rw [hx]; split <;> omega)
    rw [f_Mo_exponential_38, if_pos (by rw [zI_lt (by omega) (by omega) (by omega) (by omega)]; omega)]
    refine ⟨k', l', ?_, by rw [fracL, List.nil_append]; exact r⟩
    rw [← e, hx]
    by_cases q : z = 0
    · rw [if_pos q, if_pos q, zI_lit, zI_sub]
    · rw [if_neg q, if_neg q]; rfl
  | succ k ih =>
    intro fuel i piece size l h1 h2 h3 h4 h5
    obtain ⟨fu, rfl, hfu⟩ := fuelS h2
    obtain ⟨r, k1, l1, e0, e1, r1⟩ := fig_put h h10 (k := (i : Int)) (by omega) (by omega) h3 (by omega)
    rw [f_Mo_exponential_38, if_neg (by rw [zI_lt (by omega) (by omega) (by omega) (by omega)]; omega), e0, b1s, e1, b2s, show zI (i : Int) + 1 = zI ((i : Int) + 1) from zI_add _ 1, cast1 i]
    obtain ⟨k2, l2, e2, r2⟩ := ih fu (i + 1) k1 l1 _ (by omega) (by omega) r1 (by rw [List.length_append, List.length_singleton]; omega) h5
    refine ⟨k2, l2, e2, ?_⟩
    rw [fracL]
    rw [List.append_assoc] at r2
    rw [show top - (i : Int) - 1 = top - ((i + 1 : Nat) : Int) by omega]
    exact r2
theorem expo_ok {N : Nat} (hN : 1000000 < N) (h : RF F many E top m) (h10 : ∀ i, E i < 10) (fl : Int32) {p be x : Int} (p1 : -98 ≤ p) (p2 : p ≤ 99) (b1 : 0 ≤ be) (b2 : be ≤ 20000) {z : Int32} (hz : f_Mo_isZero N 64 F many = some z) (hx : x = if z = 0 then p - 1 else 0) {piece : Nat → Int32} {size : Int32} {l : List Int32} (h3 : rwL 20200 piece size l) (h4 : l.length + be.toNat + 6 ≤ 20200) : ∃ k' l', f_Mo_exponential N fl 20200 piece size 64 F many (zI p) (zI be) = some (k', l') ∧ rwL 20200 k' l' (l ++ (kByt 6 (eZ E top) :: (bhL E (top - 1) be.toNat (fl &&& 2 ≠ 0) ++ expL x))) := by
  unfold f_Mo_exponential
  obtain ⟨r, k0, l0, e0, e01, r0⟩ := fig_put h h10 (k := 0) (by omega) (by omega) h3 (by omega)
  rw [show top - 0 = top by omega] at r0
  rw [show zI 0 = (0 : Int32) from rfl] at e0
  rw [hz, b1s, e0, b1s, e01, b2s]
  obtain ⟨k1, l1, e1, r1⟩ := row_put (c := 46) (by decide) r0 (ck_z (z := 46) (by omega) (by omega)) (by rw [List.length_append, List.length_singleton]; omega)
  obtain ⟨k2, l2, e2, r2⟩ := expo_38 h h10 (by omega) p2 b1 b2 z hx be.toNat N 1 k1 l1 _ (by omega) (by omega) r1 (by simp only [List.length_append, List.length_singleton]; omega) p1
  obtain ⟨k3, l3, e3, r3⟩ := expo_38 h h10 (by omega) p2 b1 b2 z hx be.toNat N 1 k0 l0 _ (by omega) (by omega) r0 (by simp only [List.length_append, List.length_singleton]; omega) p1
  rw [show zI ((1 : Nat) : Int) = (1 : Int32) from rfl] at e2 e3
  rw [show top - ((1 : Nat) : Int) = top - 1 by omega] at r2 r3
  rw [e1, b2s, e2, e3, mo_has, flg_35, b1s]
  unfold bhL
  by_cases q : 0 < be
  · rw [if_pos (by rw [zI_lit, zI_lt (by omega) (by omega) (by omega) (by omega)]; exact q), if_pos (show 0 < be.toNat ∨ fl &&& 2 ≠ 0 from Or.inl (by omega))]
    refine ⟨k2, l2, rfl, ?_⟩
    simpa using r2
  · rw [if_neg (by rw [zI_lit, zI_lt (by omega) (by omega) (by omega) (by omega)]; exact q)]
    by_cases q2 : fl &&& 2 = 0
    · rw [if_pos q2, if_pos rfl, if_neg (show ¬ (0 < be.toNat ∨ fl &&& 2 ≠ 0) from fun h => h.elim (fun h => by omega) (fun h => h q2))]
      refine ⟨k3, l3, rfl, ?_⟩
      simpa using r3
    · rw [if_neg q2, if_neg n10, if_pos (show 0 < be.toNat ∨ fl &&& 2 ≠ 0 from Or.inr q2)]
      refine ⟨k2, l2, rfl, ?_⟩
      simpa using r2
end PUplain
