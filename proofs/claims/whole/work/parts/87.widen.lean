section PUwiden
variable {N : Nat}
theorem ins_rw {n : Nat} {kept : Nat → Int32} {len : Int32} {l : List Int32} {c : Int32} (h : rwL n kept len l) (hc : ck c) {pos m : Int} (m0 : 0 ≤ m) (m2 : m < 400000) (hl : l.length < 400000) (p1 : 0 ≤ pos) (p2 : pos ≤ (l.length : Int)) {K' : Nat → Int32} (hK : ∀ j : Nat, (j : Int) < (l.length : Int) + m → K' j = if pos ≤ (j : Int) ∧ (j : Int) < pos + m then c else if pos + m ≤ (j : Int) then kept (j - m.toNat) else kept j) (hn : ∀ j : Nat, j + m.toNat < n → j < n) : rwL n K' (zI ((l.length : Int) + m)) (insL l pos m c) := by
  obtain ⟨rfl, hb, hk⟩ := h
  have hlen : (insL l pos m c).length = l.length + m.toNat := by
    unfold insL
    rw [List.length_append, List.length_append, reps_len, List.length_take, List.length_drop]
    omega
  refine ⟨by rw [hlen]; congr 1; omega, by rw [hlen]; omega, fun j d hj => ?_⟩
  have hjl : j < l.length + m.toNat := by rw [← hlen]; exact (List.getElem?_eq_some_iff.mp hj).1
  unfold insL at hj
  rw [hK j (by omega)]
  by_cases hj1 : (j : Int) < pos
  · rw [List.getElem?_append_left (by rw [List.length_take]; omega), List.getElem?_take, if_pos (by omega)] at hj
    rw [if_neg (by omega), if_neg (by omega)]
    exact hk j d hj
  · rw [List.getElem?_append_right (by rw [List.length_take]; omega), List.length_take, Nat.min_eq_left (by omega)] at hj
    by_cases hj2 : (j : Int) < pos + m
    · rw [List.getElem?_append_left (by rw [reps_len]; omega)] at hj
      obtain ⟨rfl, h9⟩ := reps_get hj
      refine ⟨hc, fun hjn => ?_⟩
      rw [if_pos (by omega)]
    · rw [List.getElem?_append_right (by rw [reps_len]; omega), reps_len, List.getElem?_drop] at hj
      have h8 : pos.toNat + (j - pos.toNat - m.toNat) = j - m.toNat := by omega
      rw [h8] at hj
      have h9 := hk _ d hj
      refine ⟨h9.1, fun hjn => ?_⟩
      rw [if_neg (by omega), if_pos (by omega)]
      exact h9.2 (by omega)
theorem w94 (pd sz : Int32) {pos lack : Int} (p0 : 0 ≤ pos) (hb : pos + lack ≤ 20200) : ∀ (k fuel : Nat) (K : Nat → Int32) (i : Int), 0 ≤ i → i + k = lack → k < fuel → f_Mo_widen_94 20200 pd fuel K sz (zI lack) (zI pos) (zI i) = some (stR K (pos + i) (pos + lack) (if pd = 0 then 32 else 48), sz + zI lack) := by
  intro k
  induction k with
  | zero =>
    intro fuel K i h0 h1 h2
    obtain ⟨fu, rfl, -⟩ := fuelS h2
    rw [f_Mo_widen_94, if_pos (by rw [zI_le (by omega) (by omega) (by omega) (by omega)]; omega), stR_0 (by omega)]
  | succ k ih =>
    intro fuel K i h0 h1 h2
    obtain ⟨fu, rfl, hfu⟩ := fuelS h2
    have hif : ∀ c : Int32, (if (zI pos + zI i) < 0 ∨ 20200 ≤ (zI pos + zI i).toNatClampNeg then none else f_Mo_widen_94 20200 pd fu (upd K (zI pos + zI i).toNatClampNeg c) sz (zI lack) (zI pos) (zI i + 1)) = f_Mo_widen_94 20200 pd fu (upd K (pos + i).toNat c) sz (zI lack) (zI pos) (zI (i + 1)) := by
      intro c
      rw [zI_add, zI_nat (by omega) (by omega), if_neg (by rw [zI_lit, zI_lt (by omega) (by omega) (by omega) (by omega)]; omega), show zI i + 1 = zI (i + 1) from zI_add _ 1]
    rw [f_Mo_widen_94, if_neg (by rw [zI_le (by omega) (by omega) (by omega) (by omega)]; omega), hif, hif]
    have hs : ∀ c : Int32, stR (upd K (pos + i).toNat c) (pos + (i + 1)) (pos + lack) c = stR K (pos + i) (pos + lack) c := by
      intro c
      rw [show pos + (i + 1) = pos + i + 1 by omega]
      exact stR_s (by omega) (by omega)
    by_cases q : pd = 0
    · have e := ih fu (upd K (pos + i).toNat 32) (i + 1) (by omega) (by omega) (by omega)
      rw [if_pos q] at e ⊢
      rw [if_pos q, e, hs]
    · have e := ih fu (upd K (pos + i).toNat 48) (i + 1) (by omega) (by omega) (by omega)
      rw [if_neg q] at e ⊢
      rw [if_neg q, e, hs]
theorem w67 (pd sz : Int32) (kept : Nat → Int32) {pos lack len : Int} (p0 : 0 ≤ pos) (l0 : 0 < lack) (hb : len + lack ≤ 20200) : ∀ (k fuel : Nat) (K : Nat → Int32), k < fuel → pos + k ≤ len → (∀ j : Nat, K j = if pos + k + lack ≤ (j : Int) ∧ (j : Int) < len + lack then kept (j - lack.toNat) else kept j) → f_Mo_widen_67 N 20200 pd fuel K sz (zI lack) (zI pos) (zI (pos + k - 1)) = f_Mo_widen_94 20200 pd N (mvR kept (pos + lack) (len + lack) lack) sz (zI lack) (zI pos) 0 := by
  intro k
  induction k with
  | zero =>
    intro fuel K h1 h2 h3
    obtain ⟨fu, rfl, -⟩ := fuelS h1
    rw [f_Mo_widen_67, if_pos (by rw [zI_lt (by omega) (by omega) (by omega) (by omega)]; omega)]
    congr 1
    funext j
    rw [h3 j]
    unfold mvR
    rw [show pos + ((0 : Nat) : Int) + lack = pos + lack by omega]
  | succ k ih =>
    intro fuel K h1 h2 h3
    obtain ⟨fu, rfl, hfu⟩ := fuelS h1
    rw [show pos + ((k + 1 : Nat) : Int) - 1 = pos + (k : Int) by omega, f_Mo_widen_67, if_neg (by rw [zI_lt (by omega) (by omega) (by omega) (by omega)]; omega), zI_add, zI_nat (by omega) (by omega), zI_nat (by omega) (by omega), if_neg (by rw [zI_lit, zI_lt (by omega) (by omega) (by omega) (by omega)]; omega), if_neg (by rw [zI_lit, zI_lt (by omega) (by omega) (by omega) (by omega)]; omega), show zI (pos + (k : Int)) + -1 = zI (pos + (k : Int) - 1) by rw [show (-1 : Int32) = zI (-1) from rfl, zI_add]; rfl]
    refine ih fu _ (by omega) (by omega) (fun j => ?_)
    by_cases hj : j = (pos + (k : Int) + lack).toNat
    · rw [hj, upd_same, h3, if_neg (by omega), if_pos (by omega)]
      congr 1
      omega
    · rw [upd_ne _ _ hj, h3 j]
      by_cases hj2 : pos + (k : Int) + lack ≤ (j : Int) ∧ (j : Int) < len + lack
      · rw [if_pos hj2, if_pos (by omega)]
      · rw [if_neg hj2, if_neg (by omega)]
theorem w26 {lack : Int} (hb : lack < 400000) : ∀ (k fuel i : Nat) (piece : Nat → Int32) (size : Int32) (l : List Int32), (i : Int) + k = lack → k < fuel → rwL 20200 piece size l → l.length + k ≤ 20200 → ∃ (k' : Nat → Int32) (l' : Int32), f_Mo_widen_26 20200 fuel piece size (zI lack) (zI (i : Int)) = some (k', l') ∧ rwL 20200 k' l' (l ++ List.replicate k 32) := by
  intro k
  induction k with
  | zero =>
    intro fuel i piece size l h1 h2 h3 h4
    obtain ⟨fu, rfl, -⟩ := fuelS h2
    rw [f_Mo_widen_26, if_pos (by rw [zI_le (by omega) (by omega) (by omega) (by omega)]; omega)]
    refine ⟨_, _, rfl, ?_⟩
    rw [List.replicate_zero, List.append_nil]
    exact h3
  | succ k ih =>
    intro fuel i piece size l h1 h2 h3 h4
    obtain ⟨fu, rfl, hfu⟩ := fuelS h2
    obtain ⟨k1, l1, e1, r1⟩ := row_put (c := 32) (by decide) h3 (ck_z (z := 32) (by omega) (by omega)) (by omega)
    obtain ⟨k2, l2, e2, r2⟩ := ih fu (i + 1) k1 l1 _ (by omega) (by omega) r1 (by rw [List.length_append, List.length_singleton]; omega)
    rw [f_Mo_widen_26, if_neg (by rw [zI_le (by omega) (by omega) (by omega) (by omega)]; omega), e1, b2s, show zI (i : Int) + 1 = zI ((i : Int) + 1) from zI_add _ 1, cast1 i, e2]
    refine ⟨k2, l2, rfl, ?_⟩
    rw [List.append_assoc] at r2
    rw [List.replicate_succ]
    exact r2
def widL (fl : Int32) (w : Int) (P : List Int32) (fr : Int) (pd : Int32) : List Int32 := if fl &&& 1 = 0 then (if pd = 0 then insL P 0 (w - (P.length : Int)) 32 else insL P fr (w - (P.length : Int)) 48) else P ++ reps (w - (P.length : Int)) 32
theorem insL_0 {P : List Int32} {pos m : Int} {c : Int32} (h : m ≤ 0) : insL P pos m c = P := by
  unfold insL reps
  rw [show m.toNat = 0 by omega, List.replicate_zero, List.nil_append, List.take_append_drop]
theorem insL_len {P : List Int32} {pos m : Int} {c : Int32} : (insL P pos m c).length = P.length + m.toNat := by
  unfold insL
  rw [List.length_append, List.length_append, reps_len, List.length_take, List.length_drop]
  omega
theorem widL_len (fl : Int32) (w : Int) (P : List Int32) (fr : Int) (pd : Int32) : (widL fl w P fr pd).length = P.length + (w - (P.length : Int)).toNat := by
  unfold widL
  split
  · split
    · exact insL_len
    · exact insL_len
  · rw [List.length_append, reps_len]
theorem insL_app (D P : List Int32) {fr m : Int} (f1 : 0 ≤ fr) (c : Int32) : insL (D ++ P) ((D.length : Int) + fr) m c = D ++ insL P fr m c := by
  unfold insL
  rw [show ((D.length : Int) + fr).toNat = D.length + fr.toNat by omega, List.take_append, List.drop_append, List.take_of_length_le (by omega), List.drop_eq_nil_of_le (by omega), show D.length + fr.toNat - D.length = fr.toNat by omega, List.nil_append, List.append_assoc]
theorem widen_class (hN : 1000000 < N) {paper : Nat → Int32} {plen : Int32} {D P : List Int32} (h : rwL 4096 paper plen (D ++ P)) (hD : D.length ≤ 10000) (hP : P.length ≤ 20200) {za pd fl : Int32} {w fr : Int} (w1 : -1 ≤ w) (w2 : w ≤ 9999) (f1 : 0 ≤ fr) (f2 : fr ≤ (P.length : Int)) (hz : (za = -1 ∧ pd = 0) ∨ (za = zI ((D.length : Int) + fr) ∧ pd = (if fl &&& 8 = 0 then 0 else 1))) :
    ∃ (k' : Nat → Int32) (l' : Int32), f_Composer_widen N 4096 paper plen (zI (D.length : Int)) za fl (zI w) = some (k', l') ∧ rwL 4096 k' l' (D ++ widL fl w P fr pd) := by
  have hl : (D ++ P).length = D.length + P.length := List.length_append
  unfold f_Composer_widen f_Composer_widen_73
  rw [row_size h, b1s]
  simp only [has_ok, b1s, hz1]
  rw [zI_sub, zI_sub, show w - (((D ++ P).length : Int) - (D.length : Int)) = w - (P.length : Int) by rw [hl]; omega]
  unfold widL
  have hb : ∃ (k' : Nat → Int32) (l' : Int32), mm_b2 (f_Row_insert N 4096 paper plen (zI (D.length : Int)) 32 (zI (w - (P.length : Int)))) (fun o_4 o_5 => some (o_4, o_5)) = some (k', l') ∧ rwL 4096 k' l' (D ++ insL P 0 (w - (P.length : Int)) 32) := by
    obtain ⟨k', l', e, r⟩ := row_insert (N := N) (c := 32) (pos := (D.length : Int)) (m := w - (P.length : Int)) (by decide) h (ck_z (z := 32) (by omega) (by omega)) (by omega) (by omega) (by rw [hl]; omega) (by omega) (by rw [hl]; omega) hN
    have e2 := insL_app D P (fr := 0) (m := w - (P.length : Int)) (by omega) 32
    rw [show (D.length : Int) + 0 = (D.length : Int) by omega] at e2
    rw [e, b2s]
    rw [e2] at r
    exact ⟨k', l', rfl, r⟩
  by_cases q : fl &&& 1 = 0
  · rw [if_pos q, if_pos q]
    by_cases q2 : fl &&& 8 = 0
    · have hp0 : pd = 0 := by
        rcases hz with h | h
        · exact h.2
        · rw [h.2, if_pos q2]
      rw [if_pos q2, if_pos hp0]
      exact hb
    · rw [if_neg q2]
      rcases hz with ⟨z1, z2⟩ | ⟨z1, z2⟩
      · rw [if_pos z1, if_pos z2]
        exact hb
      · rw [if_neg q2] at z2
        rw [z1, z2, if_neg n10, show (-1 : Int32) = zI (-1) from rfl, if_neg (by rw [zI_eq (by omega) (by omega) (by omega) (by omega)]; omega)]
        obtain ⟨k', l', e, r⟩ := row_insert (N := N) (c := 48) (pos := (D.length : Int) + fr) (m := w - (P.length : Int)) (by decide) h (ck_z (z := 48) (by omega) (by omega)) (by omega) (by omega) (by rw [hl]; omega) (by omega) (by rw [hl]; omega) hN
        rw [insL_app D P f1 48] at r
        rw [e, b2s]
        exact ⟨k', l', rfl, r⟩
  · rw [if_neg q, if_neg q]
    obtain ⟨k', l', e, r⟩ := row_addMany (N := N) (c := 32) (m := w - (P.length : Int)) (by decide) h (ck_z (z := 32) (by omega) (by omega)) (by omega) (by omega) (by rw [hl]; omega) (by omega)
    rw [e, b2s]
    rw [List.append_assoc] at r
    exact ⟨k', l', rfl, r⟩
theorem widen_ref (hN : 1000000 < N) {piece : Nat → Int32} {size : Int32} {P : List Int32} (h : rwL 20200 piece size P) (hP : P.length ≤ 20200) {pd fl fl2 : Int32} {w fr : Int} (hf : fl2 &&& 1 = fl &&& 1) (w1 : -1 ≤ w) (w2 : w ≤ 9999) (f1 : 0 ≤ fr) (f2 : fr ≤ (P.length : Int)) :
    ∃ (k' : Nat → Int32) (l' : Int32), f_Mo_widen N fl2 (zI w) 20200 piece size (zI fr) pd = some (k', l') ∧ rwL 20200 k' l' (widL fl w P fr pd) := by
  unfold f_Mo_widen widL
  simp only [mo_has, show flg 45 = 1 from by decide, b1s, hz1]
  rw [hf, h.1, zI_sub]
  by_cases q : 0 < w - (P.length : Int)
  · rw [if_pos (by rw [zI_lit, zI_lt (by omega) (by omega) (by omega) (by omega)]; exact q)]
    have hins : ∀ pos : Int, 0 ≤ pos → pos ≤ (P.length : Int) → f_Mo_widen_67 N 20200 pd N piece (zI (P.length : Int)) (zI (w - (P.length : Int))) (zI pos) (zI ((P.length : Int) - 1)) = some (stR (mvR piece (pos + (w - (P.length : Int))) ((P.length : Int) + (w - (P.length : Int))) (w - (P.length : Int))) pos (pos + (w - (P.length : Int))) (if pd = 0 then 32 else 48), zI ((P.length : Int) + (w - (P.length : Int)))) ∧ rwL 20200 (stR (mvR piece (pos + (w - (P.length : Int))) ((P.length : Int) + (w - (P.length : Int))) (w - (P.length : Int))) pos (pos + (w - (P.length : Int))) (if pd = 0 then 32 else 48)) (zI ((P.length : Int) + (w - (P.length : Int)))) (insL P pos (w - (P.length : Int)) (if pd = 0 then 32 else 48)) := by
      intro pos p1 p2
      constructor
      · have e := w67 (N := N) pd (zI (P.length : Int)) piece (pos := pos) (lack := w - (P.length : Int)) (len := (P.length : Int)) p1 q (by omega) ((P.length : Int) - pos).toNat N piece (by omega) (by omega) (fun j => by rw [if_neg (by omega)])
        rw [show pos + ((((P.length : Int) - pos).toNat : Nat) : Int) - 1 = (P.length : Int) - 1 by omega] at e
        rw [e]
        have e2 := w94 pd (zI (P.length : Int)) (pos := pos) (lack := w - (P.length : Int)) p1 (by omega) (w - (P.length : Int)).toNat N (mvR piece (pos + (w - (P.length : Int))) ((P.length : Int) + (w - (P.length : Int))) (w - (P.length : Int))) 0 (by omega) (by omega) (by omega)
        rw [show zI 0 = (0 : Int32) from rfl, show pos + 0 = pos by omega, zI_add] at e2
        exact e2
      · refine ins_rw h (by split; exact ck_z (z := 32) (by omega) (by omega); exact ck_z (z := 48) (by omega) (by omega)) (by omega) (by omega) (by omega) p1 p2 (fun j hj => ?_) (fun j hj => by omega)
        unfold stR mvR
        by_cases a : pos ≤ (j : Int) ∧ (j : Int) < pos + (w - (P.length : Int))
        · rw [if_pos a, if_pos a]
        · rw [if_neg a, if_neg a]
          by_cases b : pos + (w - (P.length : Int)) ≤ (j : Int)
          · rw [if_pos b, if_pos ⟨b, hj⟩]
          · rw [if_neg b, if_neg (by omega)]
    have e1 : zI (P.length : Int) - 1 = zI ((P.length : Int) - 1) := zI_sub _ 1
    by_cases q2 : fl &&& 1 = 0
    · rw [if_pos q2, if_pos q2, e1]
      by_cases q3 : pd = 0
      · obtain ⟨x1, x2⟩ := hins 0 (by omega) (by omega)
        rw [if_pos q3] at x1 x2
        rw [if_pos q3, if_pos q3]
        exact ⟨_, _, x1, x2⟩
      · obtain ⟨x1, x2⟩ := hins fr f1 f2
        rw [if_neg q3] at x1 x2
        rw [if_neg q3, if_neg q3]
        exact ⟨_, _, x1, x2⟩
    · rw [if_neg q2, if_neg q2]
      have hr : rwL 20200 piece (zI (P.length : Int)) P := by rw [← h.1]; exact h
      obtain ⟨k', l', e, r⟩ := w26 (lack := w - (P.length : Int)) (by omega) (w - (P.length : Int)).toNat N 0 piece (zI (P.length : Int)) P (by omega) (by omega) hr (by omega)
      exact ⟨k', l', e, r⟩
  · rw [if_neg (by rw [zI_lit, zI_lt (by omega) (by omega) (by omega) (by omega)]; exact q)]
    refine ⟨_, _, rfl, ?_⟩
    have e : (if fl &&& 1 = 0 then if pd = 0 then insL P 0 (w - (P.length : Int)) 32 else insL P fr (w - (P.length : Int)) 48 else P ++ reps (w - (P.length : Int)) 32) = P := by
      rw [insL_0 (by omega), insL_0 (by omega)]
      unfold reps
      rw [show (w - (P.length : Int)).toNat = 0 by omega, List.replicate_zero, List.append_nil]
      split
      · split <;> rfl
      · rfl
    rw [e, ← h.1]
    exact h
theorem m262 {len : Int} (hl : len ≤ 20200) (fl sz fr pd : Int32) (F : Nat → Int32) (mn pt : Int32) (hs : sz = zI len) : ∀ (k fuel : Nat) (K : Nat → Int32) (i : Int), 0 ≤ i → i + k = len → k < fuel → (∀ j : Nat, i ≤ (j : Int) → (j : Int) < len → ck (K j)) → f_Mo_make_262 20200 fuel fl K sz fr pd F mn pt (zI i) = some (fl, fun (j : Nat) => if i ≤ (j : Int) ∧ (j : Int) < len then upC (K j) else K j, sz, fr, pd, F, mn, pt) := by
  subst hs
  intro k
  induction k with
  | zero =>
    intro fuel K i h0 h1 h2 hk
    obtain ⟨fu, rfl, -⟩ := fuelS h2
    rw [f_Mo_make_262, if_pos (by rw [zI_le (by omega) (by omega) (by omega) (by omega)]; omega)]
    congr 3
    funext j
    rw [if_neg (by omega)]
  | succ k ih =>
    intro fuel K i h0 h1 h2 hk
    obtain ⟨fu, rfl, hfu⟩ := fuelS h2
    obtain ⟨z, hz, z1, z2⟩ := hk i.toNat (by omega) (by omega)
    have hi : ¬ (zI i < 0 ∨ 20200 ≤ (zI i).toNatClampNeg) := by
      rw [zI_nat (by omega) (by omega), zI_lit, zI_lt (by omega) (by omega) (by omega) (by omega)]; omega
    have hup : upC (K i.toNat) = (if z < 97 then zI z else if 122 < z then zI z else zI (z - 32)) := by
      rw [hz]; unfold upC; simp (disch := omega) only [zI_lit, zI_n, zI_add, zI_sub, zI_mul, zI_neg, zI_le, zI_lt, zI_eq, zI_nat]
    have hK : ∀ K' : Nat → Int32, (∀ j : Nat, (j : Int) ≠ i → K' j = K j) → K' i.toNat = upC (K i.toNat) → f_Mo_make_262 20200 fu fl K' (zI len) fr pd F mn pt (zI (i + 1)) = some (fl, fun (j : Nat) => if i ≤ (j : Int) ∧ (j : Int) < len then upC (K j) else K j, zI len, fr, pd, F, mn, pt) := by
      intro K' hne heq
      rw [ih fu K' (i + 1) (by omega) (by omega) (by omega) (fun j hj1 hj2 => by rw [hne j (by omega)]; exact hk j (by omega) hj2)]
      congr 3
      funext j
      by_cases hj : (j : Int) = i
      · rw [if_neg (by omega), if_pos (by omega), show j = i.toNat by omega, heq]
      · rw [hne j hj]
        by_cases hj2 : i ≤ (j : Int) ∧ (j : Int) < len
        · rw [if_pos hj2, if_pos (by omega)]
        · rw [if_neg hj2, if_neg (by omega)]
    have e1 : zI i + 1 = zI (i + 1) := zI_add _ 1
    rw [f_Mo_make_262, if_neg (by rw [zI_le (by omega) (by omega) (by omega) (by omega)]; omega)]
    unfold f_Mo_make_312
    simp only [if_neg hi]
    rw [zI_nat (by omega) (by omega), hz, e1]
    simp only [show ((zI z < (97 : Int32)) = (z < 97)) by rw [zI_lit, zI_lt (by omega) (by omega) (by omega) (by omega)], show (((122 : Int32) < zI z) = (122 < z)) by rw [zI_lit, zI_lt (by omega) (by omega) (by omega) (by omega)]]
    by_cases z3 : z < 97
    · rw [if_pos z3]
      exact hK _ (fun j hj => upd_ne _ _ (by omega)) (by rw [upd_same, hup, if_pos z3])
    · rw [if_neg z3]
      by_cases z4 : 122 < z
      · rw [if_pos z4]
        exact hK _ (fun j hj => upd_ne _ _ (by omega)) (by rw [upd_same, hup, if_neg z3, if_pos z4])
      · rw [if_neg z4]
        refine hK _ (fun j hj => upd_ne _ _ (by omega)) ?_
        rw [upd_same, hup, if_neg z3, if_neg z4, zI_lit, zI_lit, zI_sub, zI_add]
        congr 1; omega
def finL (fl : Int32) (w : Int) (conv : Int32) (P : List Int32) (fr : Int) (pd : Int32) : List Int32 := if conv < 65 then widL fl w P fr pd else if 90 < conv then widL fl w P fr pd else (widL fl w P fr pd).map upC
theorem finL_len (fl : Int32) (w : Int) (conv : Int32) (P : List Int32) (fr : Int) (pd : Int32) : (finL fl w conv P fr pd).length = P.length + (w - (P.length : Int)).toNat := by
  unfold finL
  split
  · exact widL_len fl w P fr pd
  · split
    · exact widL_len fl w P fr pd
    · rw [List.length_map]; exact widL_len fl w P fr pd
theorem up_class (hN : 1000000 < N) {paper : Nat → Int32} {plen : Int32} {D W : List Int32} (h : rwL 4096 paper plen (D ++ W)) : ∃ k', f_Row_enlargeLettersFrom N 4096 paper plen (zI (D.length : Int)) = some k' ∧ rwL 4096 k' plen (D ++ W.map upC) := by
  obtain ⟨k', e, r⟩ := row_enlarge (N := N) (st := (D.length : Int)) (by decide) h (by omega) (by rw [List.length_append]; omega) hN
  refine ⟨k', e, ?_⟩
  rw [show ((D.length : Int)).toNat = D.length by omega, List.take_left', List.drop_left'] at r
  · exact r
  · rfl
  · rfl
theorem fin_class (hN : 1000000 < N) {paper : Nat → Int32} {plen : Int32} {D P : List Int32} (h : rwL 4096 paper plen (D ++ P)) (hD : D.length ≤ 10000) (hP : P.length ≤ 20200) {za pd fl : Int32} {w fr : Int} (w1 : -1 ≤ w) (w2 : w ≤ 9999) (f1 : 0 ≤ fr) (f2 : fr ≤ (P.length : Int)) (hz : (za = -1 ∧ pd = 0) ∨ (za = zI ((D.length : Int) + fr) ∧ pd = (if fl &&& 8 = 0 then 0 else 1))) (conv : Int32) (dd : Nat → Int32) (cc ss be we : Int32) :
    ∃ (k' : Nat → Int32) (l' : Int32), f_Composer_compose_A_173 N 4096 fl (zI w) conv paper plen dd cc ss (zI (D.length : Int)) za be we = some (k', l', dd, cc, ss, zI (D.length : Int), za, be, we) ∧ f_Composer_compose_173 N 4096 fl (zI w) conv paper plen (zI (D.length : Int)) za = some (k', l', zI (D.length : Int), za) ∧ rwL 4096 k' l' (D ++ finL fl w conv P fr pd) := by
  obtain ⟨k1, l1, e1, r1⟩ := widen_class hN h hD hP w1 w2 f1 f2 hz
  obtain ⟨k2, e2, r2⟩ := up_class hN r1
  unfold f_Composer_compose_A_173 f_Composer_compose_173 f_Directive_isLarge finL
  rw [e1, b2s, b2s, e2]
  by_cases q : conv < 65
  · simp only [if_pos q]
    exact ⟨k1, l1, rfl, rfl, r1⟩
  · simp only [if_neg q]
    by_cases q2 : 90 < conv
    · simp only [if_pos q2]
      exact ⟨k1, l1, rfl, rfl, r1⟩
    · simp only [if_neg q2]
      exact ⟨k2, l1, rfl, rfl, r2⟩
theorem fin_ref (hN : 1000000 < N) {piece : Nat → Int32} {size : Int32} {P : List Int32} (h : rwL 20200 piece size P) (hP : P.length ≤ 20200) {pd fl fl2 : Int32} {w fr : Int} (hf : fl2 &&& 1 = fl &&& 1) (w1 : -1 ≤ w) (w2 : w ≤ 9999) (f1 : 0 ≤ fr) (f2 : fr ≤ (P.length : Int)) (conv : Int32) (F : Nat → Int32) (mn pt : Int32) :
    ∃ (k' : Nat → Int32) (l' : Int32), f_Mo_make_238 N (zI w) conv 20200 fl2 piece size (zI fr) pd F mn pt = some (fl2, k', l', zI fr, pd, F, mn, pt) ∧ rwL 20200 k' l' (finL fl w conv P fr pd) := by
  obtain ⟨k1, l1, e1, r1⟩ := widen_ref (pd := pd) hN h hP hf w1 w2 f1 f2
  have hlen := widL_len fl w P fr pd
  unfold f_Mo_make_238 finL
  rw [e1, b2s]
  by_cases q : conv < 65
  · rw [if_pos q, if_pos q]
    exact ⟨k1, l1, rfl, r1⟩
  · rw [if_neg q, if_neg q]
    by_cases q2 : 90 < conv
    · rw [if_pos q2, if_pos q2]
      exact ⟨k1, l1, rfl, r1⟩
    · rw [if_neg q2, if_neg q2]
      generalize widL fl w P fr pd = W at *
      have e := m262 (len := (W.length : Int)) (by omega) fl2 l1 (zI fr) pd F mn pt r1.1 W.length N k1 0 (by omega) (by omega) (by omega) (fun j _ hj => by
        have h9 := r1.2.2 j _ (List.getElem?_eq_getElem (show j < W.length by omega))
        rw [h9.2 (by omega)]
        exact h9.1)
      refine ⟨_, _, e, ?_⟩
      refine ⟨by rw [List.length_map]; exact r1.1, by rw [List.length_map]; exact r1.2.1, fun j c hj => ?_⟩
      rw [List.getElem?_map, Option.map_eq_some_iff] at hj
      obtain ⟨c0, hj, rfl⟩ := hj
      have h9 := r1.2.2 j c0 hj
      have hjl : j < W.length := (List.getElem?_eq_some_iff.mp hj).1
      refine ⟨upC_ck h9.1, fun hn => ?_⟩
      dsimp only
      rw [if_pos (by omega), h9.2 hn]
end PUwiden
