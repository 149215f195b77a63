section PUrow
def rwL (n : Nat) (kept : Nat → Int32) (len : Int32) (l : List Int32) : Prop := len = zI (l.length : Int) ∧ l.length < 1000000 ∧ ∀ (j : Nat) (c : Int32), l[j]? = some c → ck c ∧ (j < n → kept j = c)
variable {n : Nat} {kept : Nat → Int32} {len : Int32} {l : List Int32} {c : Int32}
theorem row_add (hn : n < 1000000) (h : rwL n kept len l) (hc : ck c) (hl : l.length + 1 < 1000000) : ∃ k' l', f_Row_add n kept len c = some (k', l') ∧ rwL n k' l' (l ++ [c]) := by
  obtain ⟨rfl, hb, hk⟩ := h
  unfold f_Row_add f_Row_add_29
  simp (disch := omega) only [zI_lit, zI_n, zI_add, zI_sub, zI_mul, zI_neg, zI_le, zI_lt, zI_eq, zI_nat]
  by_cases hlt : (n : Int) ≤ (l.length : Int)
  · rw [if_neg (by omega), if_pos hlt]
    refine ⟨_, _, rfl, by rw [List.length_append]; congr 1, by rw [List.length_append]; exact hl, fun j d hj => ?_⟩
    by_cases hj2 : j < l.length
    · rw [List.getElem?_append_left hj2] at hj
      exact hk j d hj
    · rw [List.getElem?_append_right (by omega)] at hj
      have h0 : j - l.length < 1 := (List.getElem?_eq_some_iff.mp hj).1
      rw [show j - l.length = 0 by omega] at hj
      cases hj
      exact ⟨hc, fun h9 => absurd h9 (by omega)⟩
  · rw [if_neg (by omega), if_neg hlt, if_neg (by omega), ck_nar hc]
    refine ⟨_, _, rfl, by rw [List.length_append]; congr 1, by rw [List.length_append]; exact hl, fun j d hj => ?_⟩
    by_cases hjl : j = l.length
    · subst hjl
      rw [List.getElem?_append_right (Nat.le_refl _), Nat.sub_self] at hj
      cases hj
      rw [show ((l.length : Int)).toNat = l.length by omega, upd_same]
      exact ⟨hc, fun _ => rfl⟩
    · rw [upd_ne _ _ (by omega)]
      by_cases hj2 : j < l.length
      · rw [List.getElem?_append_left hj2] at hj
        exact hk j d hj
      · rw [List.getElem?_eq_none (by rw [List.length_append]; simp; omega)] at hj
        cases hj
def atL (l : List Int32) (i : Int) : Int32 := if 0 ≤ i ∧ i < (l.length : Int) then l.getD i.toNat 0 else -1
theorem row_at (hn : n < 1000000) (h : rwL n kept len l) (hl : l.length ≤ n) {i : Int} (i1 : -2147483648 ≤ i) (i2 : i < 2147483648) : f_Row_at n kept len (zI i) = some (atL l i) := by
  obtain ⟨rfl, hb, hk⟩ := h
  unfold f_Row_at atL
  simp (disch := omega) only [zI_lit, zI_n, zI_add, zI_sub, zI_mul, zI_neg, zI_le, zI_lt, zI_eq, zI_nat]
  by_cases h0 : i < 0
  · rw [if_pos h0, if_neg (by omega)]
  · rw [if_neg h0]
    by_cases h1 : (l.length : Int) ≤ i
    · rw [if_pos h1, if_neg (by omega)]
    · rw [if_neg h1, if_neg (by omega), if_neg (by omega), if_pos (by omega)]
      congr 1
      have h2 : i.toNat < l.length := by omega
      rw [List.getD_eq_getElem?_getD, List.getElem?_eq_getElem h2]
      exact (hk i.toNat _ (List.getElem?_eq_getElem h2)).2 (by omega)
theorem row_size (h : rwL n kept len l) : f_Row_size len = some (zI (l.length : Int)) := by
  obtain ⟨rfl, hb, hk⟩ := h
  rfl
theorem row_cut (h : rwL n kept len l) {s : Int} (s1 : 0 ≤ s) (s2 : s < 2147483648) : ∃ l', f_Row_cutTo len (zI s) = some l' ∧ rwL n kept l' (l.take s.toNat) := by
  obtain ⟨rfl, hb, hk⟩ := h
  unfold f_Row_cutTo
  simp (disch := omega) only [zI_lit, zI_n, zI_add, zI_sub, zI_mul, zI_neg, zI_le, zI_lt, zI_eq, zI_nat]
  rw [if_neg (by omega)]
  by_cases h1 : (l.length : Int) ≤ s
  · rw [if_pos h1]
    refine ⟨_, rfl, ?_⟩
    rw [List.take_of_length_le (by omega)]
    exact ⟨rfl, hb, hk⟩
  · rw [if_neg h1]
    refine ⟨_, rfl, ?_, ?_, fun j d hj => ?_⟩
    · rw [List.length_take, Nat.min_eq_left (by omega)]
      congr 1; omega
    · rw [List.length_take]; omega
    · rw [List.getElem?_take] at hj
      split at hj
      · exact hk j d hj
      · cases hj
def stR (kept : Nat → Int32) (a b : Int) (c : Int32) : Nat → Int32 := fun j => if a ≤ (j : Int) ∧ (j : Int) < b then c else kept j
theorem stR_0 {a b : Int} (h : b ≤ a) : stR kept a b c = kept := by
  funext j
  unfold stR
  rw [if_neg (by omega)]
theorem stR_s {a b : Int} (h0 : 0 ≤ a) (h : a < b) : stR (upd kept a.toNat c) (a + 1) b c = stR kept a b c := by
  funext j
  unfold stR
  by_cases h1 : a + 1 ≤ (j : Int) ∧ (j : Int) < b
  · rw [if_pos h1, if_pos (by omega)]
  · rw [if_neg h1]
    by_cases h2 : (j : Int) = a
    · rw [show a.toNat = j by omega, upd_same, if_pos (by omega)]
    · rw [upd_ne _ _ (by omega), if_neg (by omega)]
theorem fuelS {k fuel : Nat} (h : k < fuel) : ∃ fu, fuel = fu + 1 ∧ k ≤ fu := ⟨fuel - 1, by omega, by omega⟩
theorem addMany_33 (hn : n < 1000000) (m : Int32) : ∀ (k fuel : Nat) (kept : Nat → Int32) (i e : Int), 0 ≤ i → -2000000 ≤ e → e ≤ (n : Int) → e ≤ i + k → i ≤ 2000000 → k < fuel → f_Row_addMany_33 n c m fuel kept len (zI e) (zI i) = some (stR kept i e (vp_nar .char c), len + m) := by
  intro k
  induction k with
  | zero =>
    intro fuel kept i e h0 h5 h1 h2 h3 h4
    obtain ⟨fu, rfl, -⟩ := fuelS h4
    unfold f_Row_addMany_33
    simp (disch := omega) only [zI_lit, zI_n, zI_add, zI_sub, zI_mul, zI_neg, zI_le, zI_lt, zI_eq, zI_nat]
    rw [if_pos (by omega), stR_0 (by omega)]
  | succ k ih =>
    intro fuel kept i e h0 h5 h1 h2 h3 h4
    obtain ⟨fu, rfl, hfu⟩ := fuelS h4
    unfold f_Row_addMany_33
    simp (disch := omega) only [zI_lit, zI_n, zI_add, zI_sub, zI_mul, zI_neg, zI_le, zI_lt, zI_eq, zI_nat]
    by_cases he : e ≤ i
    · rw [if_pos he, stR_0 he]
    · rw [if_neg he, if_neg (by omega), ih fu _ (i + 1) e (by omega) h5 h1 (by omega) (by omega) (by omega), stR_s h0 (by omega)]
theorem insert_85 (hn : n < 1000000) (m : Int32) : ∀ (k fuel : Nat) (kept : Nat → Int32) (i e : Int), 0 ≤ i → -2000000 ≤ e → e ≤ (n : Int) → e ≤ i + k → i ≤ 2000000 → k < fuel → f_Row_insert_85 n c m fuel kept len (zI e) (zI i) = some (stR kept i e (vp_nar .char c), len + m) := by
  intro k
  induction k with
  | zero =>
    intro fuel kept i e h0 h5 h1 h2 h3 h4
    obtain ⟨fu, rfl, -⟩ := fuelS h4
    unfold f_Row_insert_85
    simp (disch := omega) only [zI_lit, zI_n, zI_add, zI_sub, zI_mul, zI_neg, zI_le, zI_lt, zI_eq, zI_nat]
    rw [if_pos (by omega), stR_0 (by omega)]
  | succ k ih =>
    intro fuel kept i e h0 h5 h1 h2 h3 h4
    obtain ⟨fu, rfl, hfu⟩ := fuelS h4
    unfold f_Row_insert_85
    simp (disch := omega) only [zI_lit, zI_n, zI_add, zI_sub, zI_mul, zI_neg, zI_le, zI_lt, zI_eq, zI_nat]
    by_cases he : e ≤ i
    · rw [if_pos he, stR_0 he]
    · rw [if_neg he, if_neg (by omega), ih fu _ (i + 1) e (by omega) h5 h1 (by omega) (by omega) (by omega), stR_s h0 (by omega)]
def reps (m : Int) (c : Int32) : List Int32 := List.replicate m.toNat c
theorem reps_len (m : Int) (c : Int32) : (reps m c).length = m.toNat := List.length_replicate
theorem reps_get {m : Int} {c d : Int32} {j : Nat} (h : (reps m c)[j]? = some d) : d = c ∧ (j : Int) < m := by
  unfold reps at h
  rw [List.getElem?_replicate] at h
  split at h
  · cases h; exact ⟨rfl, by omega⟩
  · cases h
theorem row_addMany {N : Nat} (hn : n < 1000000) (h : rwL n kept len l) (hc : ck c) {m : Int} (m1 : -1000000 ≤ m) (m2 : m < 500000) (hl : l.length < 400000) (hN : n < N) : ∃ k' l', f_Row_addMany N n kept len c (zI m) = some (k', l') ∧ rwL n k' l' (l ++ reps m c) := by
  obtain ⟨rfl, hb, hk⟩ := h
  unfold f_Row_addMany
  simp (disch := omega) only [zI_lit, zI_n, zI_add, zI_sub, zI_mul, zI_neg, zI_le, zI_lt, zI_eq, zI_nat]
  by_cases hm : m ≤ 0
  · rw [if_pos hm]
    refine ⟨_, _, rfl, ?_⟩
    rw [show reps m c = [] by unfold reps; rw [show m.toNat = 0 by omega]; rfl, List.append_nil]
    exact ⟨rfl, hb, hk⟩
  · rw [if_neg hm, if_pos (by omega)]
    have key : ∀ e : Int, e = (if (n : Int) < (l.length : Int) + m then (n : Int) else (l.length : Int) + m) → f_Row_addMany_33 n c (zI m) N kept (zI l.length) (zI e) (zI l.length) = some (stR kept l.length e (vp_nar .char c), zI l.length + zI m) := by
      intro e he
      refine addMany_33 hn (zI m) n N kept _ e (by omega) ?_ ?_ ?_ (by omega) hN
      · rw [he]; split <;> omega
      · rw [he]; split <;> omega
      · rw [he]; split <;> omega
    have e0 := key _ rfl
    rw [show zI (if (n : Int) < (l.length : Int) + m then (n : Int) else (l.length : Int) + m) = (if (n : Int) < (l.length : Int) + m then zI (n : Int) else zI ((l.length : Int) + m)) by split <;> rfl] at e0
    rw [e0, ck_nar hc, zI_add]
    refine ⟨_, _, rfl, ?_, ?_, fun j d hj => ?_⟩
    · rw [List.length_append, reps_len]; congr 1; omega
    · rw [List.length_append, reps_len]; omega
    · unfold stR
      by_cases hj2 : j < l.length
      · rw [List.getElem?_append_left hj2] at hj
        rw [if_neg (by omega)]
        exact hk j d hj
      · rw [List.getElem?_append_right (by omega)] at hj
        obtain ⟨rfl, h9⟩ := reps_get hj
        refine ⟨hc, fun hjn => ?_⟩
        rw [if_pos]
        refine ⟨by omega, ?_⟩
        split <;> omega
def mvR (kept : Nat → Int32) (a b m : Int) : Nat → Int32 := fun j => if a ≤ (j : Int) ∧ (j : Int) < b then kept (j - m.toNat) else kept j
theorem insert_39 {N : Nat} (hn : n < 1000000) {pos m B : Int} (p0 : 0 ≤ pos) (m0 : 0 < m) (m2 : m < 500000) (p2 : pos < 500000) (hN : 1000000 < N) (hk : ∀ j : Nat, j < n → (j : Int) < B → pos ≤ (j : Int) → vp_nar .char (kept j) = kept j) :
    ∀ (k fuel : Nat) (K : Nat → Int32) (x : Int), x < (n : Int) → x < B + m → -1 ≤ x → x < pos + m + k → k < fuel → (∀ j : Nat, (j : Int) ≤ x → K j = kept j) → f_Row_insert_39 N n (zI pos) c (zI m) fuel K len (zI x) = f_Row_insert_85 n c (zI m) N (fun j => if pos + m ≤ (j : Int) ∧ (j : Int) ≤ x then kept (j - m.toNat) else K j) len (if (n : Int) < pos + m then zI n else zI (pos + m)) (zI pos) := by
  intro k
  induction k with
  | zero =>
    intro fuel K x h1 h6 h2 h3 h4 h5
    obtain ⟨fu, rfl, hfu⟩ := fuelS h4
    rw [show (fun j : Nat => if pos + m ≤ (j : Int) ∧ (j : Int) ≤ x then kept (j - m.toNat) else K j) = K by funext j; rw [if_neg (by omega)]]
    rw [f_Row_insert_39]
    simp (disch := omega) only [zI_lit, zI_n, zI_add, zI_sub, zI_mul, zI_neg, zI_le, zI_lt, zI_eq, zI_nat]
    rw [if_pos (by omega)]
  | succ k ih =>
    intro fuel K x h1 h6 h2 h3 h4 h5
    obtain ⟨fu, rfl, hfu⟩ := fuelS h4
    rw [f_Row_insert_39]
    simp (disch := omega) only [zI_lit, zI_n, zI_add, zI_sub, zI_mul, zI_neg, zI_le, zI_lt, zI_eq, zI_nat]
    by_cases hx : x < pos + m
    · rw [if_pos hx]
      rw [show (fun j : Nat => if pos + m ≤ (j : Int) ∧ (j : Int) ≤ x then kept (j - m.toNat) else K j) = K by funext j; rw [if_neg (by omega)]]
    · rw [if_neg hx, if_neg (by omega), if_neg (by omega), show x + -1 = x - 1 by omega, ih fu _ (x - 1) (by omega) (by omega) (by omega) (by omega) (by omega) (fun j hj => by rw [upd_ne _ _ (by omega)]; exact h5 j (by omega))]
      congr 1
      funext j
      rw [h5 (x - m).toNat (by omega), hk (x - m).toNat (by omega) (by omega) (by omega)]
      by_cases hj : (j : Int) = x
      · rw [if_neg (by omega), if_pos (by omega), show x.toNat = j by omega, upd_same]
        congr 1; omega
      · by_cases hj2 : pos + m ≤ (j : Int) ∧ (j : Int) ≤ x - 1
        · rw [if_pos hj2, if_pos (by omega)]
        · rw [if_neg hj2, if_neg (by omega), upd_ne _ _ (by omega)]
theorem minE (a b : Int) : ∃ E : Int, (if a < b then zI a else zI b) = zI E ∧ E ≤ a ∧ E ≤ b ∧ (E = a ∨ E = b) := by
  by_cases h : a < b
  · exact ⟨a, if_pos h, by omega, by omega, Or.inl rfl⟩
  · exact ⟨b, if_neg h, by omega, by omega, Or.inr rfl⟩
theorem maxE (a b : Int) : ∃ E : Int, (if a < b then zI b else zI a) = zI E ∧ a ≤ E ∧ b ≤ E ∧ (E = a ∨ E = b) := by
  by_cases h : a < b
  · exact ⟨b, if_pos h, by omega, by omega, Or.inr rfl⟩
  · exact ⟨a, if_neg h, by omega, by omega, Or.inl rfl⟩
def insL (l : List Int32) (pos m : Int) (c : Int32) : List Int32 := l.take pos.toNat ++ (reps m c ++ l.drop pos.toNat)
theorem row_insert {N : Nat} (hn : n < 1000000) (h : rwL n kept len l) (hc : ck c) {pos m : Int} (m1 : -1000000 ≤ m) (m2 : m < 400000) (hl : l.length < 400000) (p1 : 0 ≤ pos) (p2 : pos ≤ (l.length : Int)) (hN : 1000000 < N) : ∃ k' l', f_Row_insert N n kept len (zI pos) c (zI m) = some (k', l') ∧ rwL n k' l' (insL l pos m c) := by
  obtain ⟨rfl, hb, hk⟩ := h
  unfold f_Row_insert
  simp (disch := omega) only [zI_lit, zI_n, zI_add, zI_sub, zI_mul, zI_neg, zI_le, zI_lt, zI_eq, zI_nat]
  by_cases hm : m ≤ 0
  · rw [if_pos hm]
    refine ⟨_, _, rfl, ?_⟩
    rw [show insL l pos m c = l by unfold insL reps; rw [show m.toNat = 0 by omega]; simp]
    exact ⟨rfl, hb, hk⟩
  · rw [if_neg hm, if_neg (by omega), if_pos (by omega)]
    have hnar : ∀ j : Nat, j < n → (j : Int) < (l.length : Int) → pos ≤ (j : Int) → vp_nar .char (kept j) = kept j := by
      intro j hj1 hj2 _
      have h9 := hk j _ (List.getElem?_eq_getElem (show j < l.length by omega))
      rw [h9.2 hj1]
      exact ck_nar h9.1
    obtain ⟨E, hE, E1, E2, E3⟩ := minE (n : Int) ((l.length : Int) + m)
    obtain ⟨G, hG, G1, G2, G3⟩ := minE (n : Int) (pos + m)
    rw [hE, zI_sub, insert_39 (B := (l.length : Int)) (kept := kept) hn p1 (by omega) (by omega) (by omega) hN hnar n N kept (E - 1) (by omega) (by omega) (by omega) (by omega) (by omega) (fun _ _ => rfl), hG,
      insert_85 hn (zI m) n N _ pos G p1 (by omega) (by omega) (by omega) (by omega) (by omega), ck_nar hc, zI_add]
    have hlen : (insL l pos m c).length = l.length + m.toNat := by
      unfold insL
      rw [List.length_append, List.length_append, reps_len, List.length_take, List.length_drop]
      omega
    refine ⟨_, _, rfl, by rw [hlen]; congr 1; omega, by rw [hlen]; omega, fun j d hj => ?_⟩
    unfold insL at hj
    unfold stR
    by_cases hj1 : (j : Int) < pos
    · rw [List.getElem?_append_left (by rw [List.length_take]; omega), List.getElem?_take, if_pos (by omega)] at hj
      rw [if_neg (by omega)]
      dsimp only
      rw [if_neg (by omega)]
      exact hk j d hj
    · rw [List.getElem?_append_right (by rw [List.length_take]; omega), List.length_take, Nat.min_eq_left (by omega)] at hj
      by_cases hj2 : (j : Int) < pos + m
      · rw [List.getElem?_append_left (by rw [reps_len]; omega)] at hj
        obtain ⟨rfl, h9⟩ := reps_get hj
        refine ⟨hc, fun hjn => ?_⟩
        rw [if_pos (by omega)]
      · rw [List.getElem?_append_right (by rw [reps_len]; omega), reps_len, List.getElem?_drop] at hj
        have h8 : pos.toNat + (j - pos.toNat - m.toNat) = j - m.toNat := by omega
        rw [h8] at hj
        have h7 : j - m.toNat < l.length := (List.getElem?_eq_some_iff.mp hj).1
        have h9 := hk _ d hj
        refine ⟨h9.1, fun hjn => ?_⟩
        rw [if_neg (by omega)]
        dsimp only
        rw [if_pos (by omega)]
        exact h9.2 (by omega)
def upC (c : Int32) : Int32 := if c < 97 then c else if 122 < c then c else c - 32
theorem upC_ck (h : ck c) : ck (upC c) := by
  obtain ⟨z, rfl, h1, h2⟩ := h
  unfold upC
  simp (disch := omega) only [zI_lit, zI_n, zI_add, zI_sub, zI_mul, zI_neg, zI_le, zI_lt, zI_eq, zI_nat]
  split
  · exact ck_z h1 h2
  · split
    · exact ck_z h1 h2
    · exact ck_z (by omega) (by omega)
theorem enlarge_19 (hn : n < 1000000) : ∀ (k fuel : Nat) (K : Nat → Int32) (i e : Int), 0 ≤ i → 0 ≤ e → e ≤ (n : Int) → e ≤ i + k → i ≤ 2000000 → k < fuel → (∀ j : Nat, i ≤ (j : Int) → (j : Int) < e → ck (K j)) → f_Row_enlargeLettersFrom_19 n fuel K (zI e) (zI i) = some (fun (j : Nat) => if i ≤ (j : Int) ∧ (j : Int) < e then upC (K j) else K j) := by
  intro k
  induction k with
  | zero =>
    intro fuel K i e h0 h5 h1 h2 h3 h4 hk
    obtain ⟨fu, rfl, -⟩ := fuelS h4
    unfold f_Row_enlargeLettersFrom_19
    simp (disch := omega) only [zI_lit, zI_n, zI_add, zI_sub, zI_mul, zI_neg, zI_le, zI_lt, zI_eq, zI_nat]
    rw [if_pos (by omega)]
    congr 1
    funext j
    rw [if_neg (by omega)]
  | succ k ih =>
    intro fuel K i e h0 h5 h1 h2 h3 h4 hk
    obtain ⟨fu, rfl, hfu⟩ := fuelS h4
    rw [f_Row_enlargeLettersFrom_19]
    by_cases he : e ≤ i
    · simp (disch := omega) only [zI_lit, zI_n, zI_add, zI_sub, zI_mul, zI_neg, zI_le, zI_lt, zI_eq, zI_nat]
      rw [if_pos he]
      congr 1
      funext j
      rw [if_neg (by omega)]
    · obtain ⟨z, hz, z1, z2⟩ := hk i.toNat (by omega) (by omega)
      rw [zI_nat (by omega) (by omega), hz]
      simp (disch := omega) only [zI_lit, zI_n, zI_add, zI_sub, zI_mul, zI_neg, zI_le, zI_lt, zI_eq, zI_nat]
      rw [if_neg he, if_neg (by omega)]
      have hup : upC (K i.toNat) = (if z < 97 then zI z else if 122 < z then zI z else zI (z - 32)) := by
        rw [hz]; unfold upC; simp (disch := omega) only [zI_lit, zI_n, zI_add, zI_sub, zI_mul, zI_neg, zI_le, zI_lt, zI_eq, zI_nat]
      have hK : ∀ K' : Nat → Int32, (∀ j : Nat, (j : Int) ≠ i → K' j = K j) → K' i.toNat = upC (K i.toNat) → f_Row_enlargeLettersFrom_19 n fu K' (zI e) (zI (i + 1)) = some (fun (j : Nat) => if i ≤ (j : Int) ∧ (j : Int) < e then upC (K j) else K j) := by
        intro K' hne heq
        rw [ih fu K' (i + 1) e (by omega) h5 h1 (by omega) (by omega) (by omega) (fun j hj1 hj2 => by rw [hne j (by omega)]; exact hk j (by omega) hj2)]
        congr 1
        funext j
        by_cases hj : (j : Int) = i
        · rw [if_neg (by omega), if_pos (by omega), show j = i.toNat by omega, heq]
        · rw [hne j hj]
          by_cases hj2 : i ≤ (j : Int) ∧ (j : Int) < e
          · rw [if_pos hj2, if_pos (by omega)]
          · rw [if_neg hj2, if_neg (by omega)]
      by_cases z3 : z < 97
      · rw [if_pos z3]
        exact hK K (fun _ _ => rfl) (by rw [hup, if_pos z3, hz])
      · rw [if_neg z3]
        by_cases z4 : 122 < z
        · rw [if_neg (by omega), if_pos z4]
          exact hK K (fun _ _ => rfl) (by rw [hup, if_neg z3, if_pos z4, hz])
        · rw [if_neg (by omega), if_neg z4, if_neg (by omega), if_neg (by omega)]
          refine hK _ (fun j hj => upd_ne _ _ (by omega)) ?_
          rw [upd_same, hup, if_neg z3, if_neg z4, zI_c (by omega) (by omega), zI_nar (by omega) (by omega)]
          congr 1; omega
theorem row_enlarge {N : Nat} (hn : n < 1000000) (h : rwL n kept len l) {st : Int} (s1 : 0 ≤ st) (s2 : st ≤ (l.length : Int)) (hN : 1000000 < N) : ∃ k', f_Row_enlargeLettersFrom N n kept len (zI st) = some k' ∧ rwL n k' len (l.take st.toNat ++ (l.drop st.toNat).map upC) := by
  obtain ⟨rfl, hb, hk⟩ := h
  unfold f_Row_enlargeLettersFrom
  obtain ⟨E, hE, E1, E2, E3⟩ := minE (n : Int) (l.length : Int)
  simp (disch := omega) only [zI_lit, zI_n, zI_add, zI_sub, zI_mul, zI_neg, zI_le, zI_lt, zI_eq, zI_nat]
  rw [hE, if_neg (by omega), enlarge_19 hn n N kept st E s1 (by omega) (by omega) (by omega) (by omega) (by omega) (fun j hj1 hj2 => ?_)]
  rotate_left
  · have h9 := hk j _ (List.getElem?_eq_getElem (show j < l.length by omega))
    rw [h9.2 (by omega)]
    exact h9.1
  have hlen : (l.take st.toNat ++ (l.drop st.toNat).map upC).length = l.length := by
    rw [List.length_append, List.length_map, List.length_take, List.length_drop]; omega
  refine ⟨_, rfl, by rw [hlen], by rw [hlen]; exact hb, fun j d hj => ?_⟩
  have hjl : j < l.length := by rw [← hlen]; exact (List.getElem?_eq_some_iff.mp hj).1
  by_cases hj1 : (j : Int) < st
  · rw [List.getElem?_append_left (by rw [List.length_take]; omega), List.getElem?_take, if_pos (by omega)] at hj
    dsimp only
    rw [if_neg (by omega)]
    exact hk j d hj
  · rw [List.getElem?_append_right (by rw [List.length_take]; omega), List.length_take, Nat.min_eq_left (by omega), List.getElem?_map, List.getElem?_drop, show st.toNat + (j - st.toNat) = j by omega] at hj
    rw [List.getElem?_eq_getElem hjl] at hj
    cases hj
    have h9 := hk j _ (List.getElem?_eq_getElem hjl)
    refine ⟨upC_ck h9.1, fun hjn => ?_⟩
    dsimp only
    rw [if_pos (by omega), h9.2 hjn]
theorem addRow_15 {on : Nat} {ok : Nat → Int32} {o : List Int32} (hn : n < 1000000) (hon : on < 1000000) (ho : ∀ (j : Nat) (c : Int32), o[j]? = some c → ck c ∧ (j < on → ok j = c)) (hol : o.length ≤ on) : ∀ (k fuel : Nat) (kept : Nat → Int32) (len : Int32) (l : List Int32) (i : Nat), rwL n kept len l → o.length ≤ i + k → k < fuel → l.length + k < 900000 → i ≤ o.length → ∃ k' l', f_Row_addRow_15 n on ok fuel kept len (zI (o.length : Int)) (zI (i : Int)) = some (k', l') ∧ rwL n k' l' (l ++ o.drop i) := by
  intro k
  induction k with
  | zero =>
    intro fuel kept len l i h h1 h2 h3 h4
    obtain ⟨fu, rfl, -⟩ := fuelS h2
    rw [f_Row_addRow_15]
    simp (disch := omega) only [zI_lit, zI_n, zI_add, zI_sub, zI_mul, zI_neg, zI_le, zI_lt, zI_eq, zI_nat]
    rw [if_pos (by omega), List.drop_eq_nil_of_le (by omega), List.append_nil]
    exact ⟨_, _, rfl, h⟩
  | succ k ih =>
    intro fuel kept len l i h h1 h2 h3 h4
    obtain ⟨fu, rfl, hfu⟩ := fuelS h2
    rw [f_Row_addRow_15]
    by_cases hi : o.length ≤ i
    · simp (disch := omega) only [zI_lit, zI_n, zI_add, zI_sub, zI_mul, zI_neg, zI_le, zI_lt, zI_eq, zI_nat]
      rw [if_pos (by omega), List.drop_eq_nil_of_le (by omega), List.append_nil]
      exact ⟨_, _, rfl, h⟩
    · have hi' : i < o.length := by omega
      have h9 := ho i _ (List.getElem?_eq_getElem hi')
      obtain ⟨k1, l1, e1, r1⟩ := row_add hn h h9.1 (by omega)
      rw [zI_nat (by omega) (by omega), show ((i : Int)).toNat = i by omega, h9.2 (by omega), e1]
      simp (disch := omega) only [zI_lit, zI_n, zI_add, zI_sub, zI_mul, zI_neg, zI_le, zI_lt, zI_eq, zI_nat]
      rw [if_neg (by omega), if_neg (by omega)]
      simp only [mm_b2]
      obtain ⟨k2, l2, e2, r2⟩ := ih fu k1 l1 (l ++ [o[i]]) (i + 1) r1 (by omega) (by omega) (by rw [List.length_append]; simp; omega) (by omega)
      refine ⟨k2, l2, ?_, ?_⟩
      · rw [← e2]; congr 1
      · rw [List.drop_eq_getElem_cons hi']
        rw [List.append_assoc] at r2
        exact r2
theorem row_addRow {N on : Nat} {ok : Nat → Int32} {ol : Int32} {o : List Int32} (hn : n < 1000000) (hon : on < 1000000) (h : rwL n kept len l) (ho : rwL on ok ol o) (hol : o.length ≤ on) (hl : l.length < 400000) (hl2 : o.length < 400000) (hN : 1000000 < N) : ∃ k' l', f_Row_addRow N n kept len on ok ol = some (k', l') ∧ rwL n k' l' (l ++ o) := by
  obtain ⟨rfl, hb, hk⟩ := ho
  unfold f_Row_addRow
  obtain ⟨k2, l2, e2, r2⟩ := addRow_15 hn hon hk hol o.length N kept len l 0 h (by omega) (by omega) (by omega) (by omega)
  refine ⟨k2, l2, ?_, r2⟩
  rw [← e2, zI_n, if_neg (by rw [zI_lt (by omega) (by omega) (by omega) (by omega)]; omega)]
  rfl
end PUrow
