section PUparse
def fmt (l : List Int32) : Prop := l.length ≤ 256 ∧ ∀ (j : Nat) (c : Int32), l[j]? = some c → ∃ z : Int, c = zI z ∧ 0 ≤ z ∧ z < 256
theorem at_z {l : List Int32} (hf : fmt l) (i : Int) : ∃ z : Int, atL l i = zI z ∧ -1 ≤ z ∧ z < 256 ∧ (z = -1 ↔ ¬ (0 ≤ i ∧ i < (l.length : Int))) := by
  unfold atL
  by_cases h : 0 ≤ i ∧ i < (l.length : Int)
  · rw [if_pos h]
    have h2 : i.toNat < l.length := by omega
    obtain ⟨z, hz, z1, z2⟩ := hf.2 i.toNat _ (List.getElem?_eq_getElem h2)
    refine ⟨z, ?_, by omega, z2, by omega⟩
    rw [List.getD_eq_getElem?_getD, List.getElem?_eq_getElem h2]
    exact hz
  · rw [if_neg h]
    exact ⟨-1, rfl, by omega, by omega, by omega⟩
def dgc (l : List Int32) (p : Nat) : Prop := 48 ≤ atL l p ∧ atL l p ≤ 57
theorem dg_lt {l : List Int32} {p : Nat} (h : dgc l p) : p < l.length := by
  by_cases hp : p < l.length
  · exact hp
  · unfold dgc atL at h
    rw [if_neg (by omega)] at h
    exact absurd h.1 (by decide)
def pnum (l : List Int32) : Nat → Nat → Int → Int × Nat
  | 0, p, a => (a, p)
  | k + 1, p, a => if 48 ≤ atL l p ∧ atL l p ≤ 57 then pnum l k (p + 1) (min (max a 0 * 10 + ((atL l p).toInt - 48)) 9999) else (a, p)
theorem pnum_bd {l : List Int32} (hf : fmt l) : ∀ (k p : Nat) (a : Int), -1 ≤ a → a ≤ 9999 → p ≤ l.length → -1 ≤ (pnum l k p a).1 ∧ (pnum l k p a).1 ≤ 9999 ∧ p ≤ (pnum l k p a).2 ∧ (pnum l k p a).2 ≤ l.length := by
  intro k
  induction k with
  | zero => intro p a h1 h2 h3; exact ⟨h1, h2, Nat.le_refl _, h3⟩
  | succ k ih =>
    intro p a h1 h2 h3
    rw [pnum]
    split
    · rename_i hd
      have hp := dg_lt hd
      obtain ⟨z, hz, z1, z2, z3⟩ := at_z hf (p : Int)
      have := hd.1
      rw [hz] at this hd ⊢
      rw [zI_toInt (by omega) (by omega)]
      rw [zI_lit, zI_lit, zI_le (by omega) (by omega) (by omega) (by omega), zI_le (by omega) (by omega) (by omega) (by omega)] at hd
      have := ih (p + 1) (min (max a 0 * 10 + (z - 48)) 9999) (by omega) (by omega) (by omega)
      omega
    · exact ⟨h1, h2, Nat.le_refl _, h3⟩
theorem cast1 (p : Nat) : ((p : Int) + 1) = ((p + 1 : Nat) : Int) := by omega
theorem isDig {z : Int} (h1 : -1 ≤ z) (h2 : z < 256) : f_Directive_isDigit (zI z) = some (if 48 ≤ zI z ∧ zI z ≤ 57 then 1 else 0) := by
  unfold f_Directive_isDigit
  simp (disch := omega) only [zI_lit, zI_n, zI_add, zI_sub, zI_mul, zI_neg, zI_le, zI_lt, zI_eq, zI_nat]
  by_cases a : z < 48
  · rw [if_pos a, if_neg (by omega)]
  · rw [if_neg a]
    by_cases b : 57 < z
    · rw [if_pos b, if_neg (by omega)]
    · rw [if_neg b, if_pos (by omega)]
variable {kept : Nat → Int32} {len : Int32} {l : List Int32}
theorem pnum_no {k p : Nat} {a : Int} (h : ¬ (48 ≤ atL l p ∧ atL l p ≤ 57)) : pnum l k p a = (a, p) := by
  cases k with
  | zero => rfl
  | succ k => rw [pnum, if_neg h]
theorem rdNum (hf : fmt l) (h : rwL 256 kept len l) : ∀ (k fuel p : Nat) (a : Int), -1 ≤ a → a ≤ 9999 → p ≤ l.length → l.length ≤ p + k → k < fuel → f_Directive_readNumber_7 256 kept len fuel (zI (p : Int)) (zI a) (zI (l.length : Int)) = some (zI (pnum l k p a).1, zI ((pnum l k p a).2 : Int)) := by
  have hl := hf.1
  intro k
  induction k with
  | zero =>
    intro fuel p a h1 h2 h3 h4 h5
    obtain ⟨fu, rfl, -⟩ := fuelS h5
    rw [f_Directive_readNumber_7]
    simp (disch := omega) only [zI_lit, zI_n, zI_add, zI_sub, zI_mul, zI_neg, zI_le, zI_lt, zI_eq, zI_nat]
    rw [if_pos (by omega)]
    rfl
  | succ k ih =>
    intro fuel p a h1 h2 h3 h4 h5
    obtain ⟨fu, rfl, hfu⟩ := fuelS h5
    rw [f_Directive_readNumber_7]
    by_cases hp : l.length ≤ p
    · rw [pnum_no (fun hd => absurd (dg_lt hd) (by omega))]
      simp (disch := omega) only [zI_lit, zI_n, zI_add, zI_sub, zI_mul, zI_neg, zI_le, zI_lt, zI_eq, zI_nat]
      rw [if_pos (by omega)]
    · rw [if_neg (show ¬ zI (l.length : Int) ≤ zI (p : Int) by rw [zI_le (by omega) (by omega) (by omega) (by omega)]; omega), row_at (by decide) h (by omega) (by omega) (by omega)]
      obtain ⟨z, hz, z1, z2, z3⟩ := at_z hf (p : Int)
      simp only [b1s]
      rw [hz, isDig z1 z2]
      by_cases hd : 48 ≤ zI z ∧ zI z ≤ 57
      · rw [if_pos hd, b1s, if_neg n10, pnum, if_pos (show 48 ≤ atL l p ∧ atL l p ≤ 57 by rw [hz]; exact hd), hz, zI_toInt (by omega) (by omega)]
        have hd2 := hd
        rw [zI_lit, zI_lit, zI_le (by omega) (by omega) (by omega) (by omega), zI_le (by omega) (by omega) (by omega) (by omega)] at hd2
        have hm : (if zI a < 0 then (0 : Int32) else zI a) = zI (max a 0) := by
          rw [zI_lit]
          by_cases h9 : a < 0
          · rw [if_pos (by rw [zI_lt (by omega) (by omega) (by omega) (by omega)]; exact h9), Int.max_eq_right (by omega)]
          · rw [if_neg (by rw [zI_lt (by omega) (by omega) (by omega) (by omega)]; exact h9), Int.max_eq_left (by omega)]
        rw [hm]
        simp only [zI_lit, zI_add, zI_sub, zI_mul]
        rw [cast1 p]
        rw [← ih fu (p + 1) (min (max a 0 * 10 + (z - 48)) 9999) (by omega) (by omega) (by omega) (by omega) (by omega)]
        congr 1
        by_cases h9 : 9999 < max a 0 * 10 + (z - 48)
        · rw [if_pos (by rw [zI_lt (by omega) (by omega) (by omega) (by omega)]; exact h9), Int.min_eq_right (by omega)]
        · rw [if_neg (by rw [zI_lt (by omega) (by omega) (by omega) (by omega)]; exact h9), Int.min_eq_left (by omega)]
      · rw [if_neg hd, pnum_no (by rw [hz]; exact hd)]
        rfl
theorem rdNumber {N : Nat} (hN : 1000000 < N) (hf : fmt l) (h : rwL 256 kept len l) {p : Nat} (hp : p ≤ l.length) : f_Directive_readNumber N (zI (p : Int)) 256 kept len = some (zI (pnum l 300 p (-1)).1, zI ((pnum l 300 p (-1)).2 : Int)) := by
  have hl := hf.1
  unfold f_Directive_readNumber
  rw [row_size h]
  exact rdNum hf h 300 N p (-1) (by omega) (by omega) hp (by omega) (by omega)
theorem moHere (hf : fmt l) (h : rwL 256 kept len l) (p : Nat) (hp : p < 1000000) : f_Mo_here 256 kept len (zI (p : Int)) = some (atL l p) := by
  have hl := hf.1
  obtain ⟨rfl, hb, hk⟩ := h
  unfold f_Mo_here atL
  simp (disch := omega) only [zI_lit, zI_n, zI_add, zI_sub, zI_mul, zI_neg, zI_le, zI_lt, zI_eq, zI_nat]
  by_cases h1 : (l.length : Int) ≤ (p : Int)
  · rw [if_pos h1, if_neg (by omega)]
  · rw [if_neg h1, if_neg (by omega), if_pos (by omega)]
    have h2 : p < l.length := by omega
    have h3 : ((p : Int)).toNat = p := by omega
    rw [h3, List.getD_eq_getElem?_getD, List.getElem?_eq_getElem h2, (hk p _ (List.getElem?_eq_getElem h2)).2 (by omega)]
    rfl
theorem moDig (hf : fmt l) (h : rwL 256 kept len l) (p : Nat) (hp : p < 1000000) : f_Mo_isDigit 256 kept len (zI (p : Int)) = some (if 48 ≤ atL l p ∧ atL l p ≤ 57 then 1 else 0) := by
  unfold f_Mo_isDigit
  rw [moHere hf h p hp]
  simp only [b1s]
  obtain ⟨z, hz, z1, z2, z3⟩ := at_z hf (p : Int)
  rw [hz]
  exact isDig z1 z2
theorem moNum (hf : fmt l) (h : rwL 256 kept len l) : ∀ (k fuel p : Nat) (v : Int), 0 ≤ v → v ≤ 200000 → p ≤ l.length → l.length ≤ p + k → k < fuel → f_Mo_number_2 256 kept len fuel (zI (p : Int)) (zI v) = some (zI (pnum l k p (min v 9999)).1, zI ((pnum l k p (min v 9999)).2 : Int)) := by
  have hl := hf.1
  have hend : ∀ (v : Int) (p : Nat), 0 ≤ v → v ≤ 200000 → (if zI v ≤ 9999 then some (zI v, zI (p : Int)) else some ((9999 : Int32), zI (p : Int))) = some (zI (min v 9999), zI (p : Int)) := by
    intro v p h1 h2
    rw [zI_lit]
    by_cases h9 : v ≤ 9999
    · rw [if_pos (by rw [zI_le (by omega) (by omega) (by omega) (by omega)]; exact h9), Int.min_eq_left h9]
    · rw [if_neg (by rw [zI_le (by omega) (by omega) (by omega) (by omega)]; exact h9), Int.min_eq_right (by omega)]
  intro k
  induction k with
  | zero =>
    intro fuel p v h1 h2 h3 h4 h5
    obtain ⟨fu, rfl, -⟩ := fuelS h5
    rw [f_Mo_number_2, moDig hf h p (by omega), if_neg (show ¬ (48 ≤ atL l p ∧ atL l p ≤ 57) from fun hd => absurd (dg_lt hd) (by omega))]
    rw [b1s, if_pos rfl]
    exact hend v p h1 h2
  | succ k ih =>
    intro fuel p v h1 h2 h3 h4 h5
    obtain ⟨fu, rfl, hfu⟩ := fuelS h5
    rw [f_Mo_number_2, moDig hf h p (by omega)]
    by_cases hd : 48 ≤ atL l p ∧ atL l p ≤ 57
    · have hp := dg_lt hd
      rw [if_pos hd]
      rw [b1s, if_neg n10, pnum, if_pos hd, moHere hf h p (by omega), b1s]
      obtain ⟨z, hz, z1, z2, z3⟩ := at_z hf (p : Int)
      rw [hz] at hd ⊢
      rw [zI_lit, zI_lit, zI_le (by omega) (by omega) (by omega) (by omega), zI_le (by omega) (by omega) (by omega) (by omega)] at hd
      rw [zI_toInt (by omega) (by omega)]
      unfold f_Mo_number_32
      simp only [zI_lit, zI_add, zI_sub, zI_mul]
      rw [cast1 p]
      by_cases h9 : v ≤ 9999
      · rw [if_pos (by rw [zI_le (by omega) (by omega) (by omega) (by omega)]; exact h9), ih fu (p + 1) (10 * v + z - 48) (by omega) (by omega) (by omega) (by omega) (by omega)]
        rw [show min (max (min v 9999) 0 * 10 + (z - 48)) 9999 = min (10 * v + z - 48) 9999 by omega]
      · rw [if_neg (by rw [zI_le (by omega) (by omega) (by omega) (by omega)]; exact h9), ih fu (p + 1) v (by omega) (by omega) (by omega) (by omega) (by omega)]
        rw [show min (max (min v 9999) 0 * 10 + (z - 48)) 9999 = min v 9999 by omega]
    · rw [if_neg hd, pnum_no hd]
      rw [b1s, if_pos rfl]
      exact hend v p h1 h2
theorem pnum_0 {k p : Nat} (hd : 48 ≤ atL l p ∧ atL l p ≤ 57) : pnum l (k + 1) p 0 = pnum l (k + 1) p (-1) := by
  rw [pnum, if_pos hd]
  conv => rhs; rw [pnum, if_pos hd]
  rfl
theorem moNumber {N : Nat} (hN : 1000000 < N) (hf : fmt l) (h : rwL 256 kept len l) {p : Nat} (hp : p ≤ l.length) (hd : 48 ≤ atL l p ∧ atL l p ≤ 57) : f_Mo_number N 256 kept len (zI (p : Int)) = some (zI (pnum l 300 p (-1)).1, zI ((pnum l 300 p (-1)).2 : Int)) := by
  have hl := hf.1
  unfold f_Mo_number
  rw [show (0 : Int32) = zI 0 from rfl, moNum hf h 300 N p 0 (by omega) (by omega) hp (by omega) (by omega)]
  rw [show min (0 : Int) 9999 = 0 by omega, pnum_0 hd]
def pidx (l : List Int32) (p : Nat) : Int × Nat := if atL l p = 48 then (-1, p) else if (pnum l 300 p (-1)).1 = -1 then (-1, p) else if atL l (pnum l 300 p (-1)).2 = 36 then ((pnum l 300 p (-1)).1, (pnum l 300 p (-1)).2 + 1) else (-1, p)
def ppre (l : List Int32) (p : Nat) : Int × Nat := if atL l p = 46 then (if 48 ≤ atL l (p + 1 : Nat) ∧ atL l (p + 1 : Nat) ≤ 57 then pnum l 300 (p + 1) (-1) else (-1, p)) else (-1, p)
def ptw (f t g : Int32) : Int32 := if t = 0 then (if f &&& g = 0 then 0 else 1) else 1
def pflg (l : List Int32) : Nat → Nat → Int32 → Int32 → Int32 × Int32 × Nat
  | 0, p, f, t => (f, t, p)
  | k + 1, p, f, t => if flg (atL l p) = 0 then (f, t, p) else pflg l k (p + 1) (f ||| flg (atL l p)) (ptw f t (flg (atL l p)))
theorem at_lt {p : Nat} {c : Int32} (h : atL l p = c) (hc : c ≠ -1) : p < l.length := by
  unfold atL at h
  split at h
  · omega
  · exact absurd h.symm hc
theorem flg_lt {p : Nat} (h : ¬ flg (atL l p) = 0) : p < l.length := by
  by_cases h2 : p < l.length
  · exact h2
  · refine absurd ?_ h
    unfold atL
    rw [if_neg (by omega)]
    decide
theorem pidx_bd (hf : fmt l) {p : Nat} (hp : p ≤ l.length) : -1 ≤ (pidx l p).1 ∧ (pidx l p).1 ≤ 9999 ∧ p ≤ (pidx l p).2 ∧ (pidx l p).2 ≤ l.length := by
  have h := pnum_bd hf 300 p (-1) (by omega) (by omega) hp
  unfold pidx
  split
  · exact ⟨by omega, by omega, by omega, hp⟩
  · split
    · exact ⟨by omega, by omega, by omega, hp⟩
    · split
      · rename_i h9
        have := at_lt h9 (by decide)
        dsimp only
        omega
      · exact ⟨by omega, by omega, by omega, hp⟩
theorem ppre_bd (hf : fmt l) {p : Nat} (hp : p ≤ l.length) : -1 ≤ (ppre l p).1 ∧ (ppre l p).1 ≤ 9999 ∧ p ≤ (ppre l p).2 ∧ (ppre l p).2 ≤ l.length := by
  unfold ppre
  split
  · split
    · rename_i h9
      have h8 := dg_lt h9
      have h := pnum_bd hf 300 (p + 1) (-1) (by omega) (by omega) (by omega)
      omega
    · exact ⟨by omega, by omega, by omega, hp⟩
  · exact ⟨by omega, by omega, by omega, hp⟩
theorem pflg_bd : ∀ (k p : Nat) (f t : Int32), p ≤ l.length → (t = 0 ∨ t = 1) → ((pflg l k p f t).2.1 = 0 ∨ (pflg l k p f t).2.1 = 1) ∧ p ≤ (pflg l k p f t).2.2 ∧ (pflg l k p f t).2.2 ≤ l.length := by
  intro k
  induction k with
  | zero => intro p f t h1 h2; exact ⟨h2, Nat.le_refl _, h1⟩
  | succ k ih =>
    intro p f t h1 h2
    rw [pflg]
    split
    · exact ⟨h2, Nat.le_refl _, h1⟩
    · rename_i h9
      have h8 := flg_lt h9
      have h7 : ptw f t (flg (atL l p)) = 0 ∨ ptw f t (flg (atL l p)) = 1 := by
        unfold ptw
        repeat' split
        all_goals first | exact Or.inl rfl | exact Or.inr rfl
      have := ih (p + 1) (f ||| flg (atL l p)) _ (by omega) h7
      exact ⟨this.1, by omega, this.2.2⟩
theorem has_ok (f g : Int32) : f_Directive_has f g = some (if f &&& g = 0 then 0 else 1) := by
  unfold f_Directive_has
  split <;> rfl
theorem rdFlags {N : Nat} (hN : 1000000 < N) (hf : fmt l) (h : rwL 256 kept len l) : ∀ (k fuel p : Nat) (f t : Int32), p ≤ l.length → l.length ≤ p + k → k < fuel → f_Directive_readFlags_15 N 256 kept len fuel f t (zI (p : Int)) (zI (l.length : Int)) = some ((pflg l k p f t).1, (pflg l k p f t).2.1, zI ((pflg l k p f t).2.2 : Int)) := by
  have hl := hf.1
  intro k
  induction k with
  | zero =>
    intro fuel p f t h3 h4 h5
    obtain ⟨fu, rfl, -⟩ := fuelS h5
    rw [f_Directive_readFlags_15, if_pos (show zI (l.length : Int) ≤ zI (p : Int) by rw [zI_le (by omega) (by omega) (by omega) (by omega)]; omega)]
    rfl
  | succ k ih =>
    intro fuel p f t h3 h4 h5
    obtain ⟨fu, rfl, hfu⟩ := fuelS h5
    by_cases hp : l.length ≤ p
    · rw [f_Directive_readFlags_15, if_pos (show zI (l.length : Int) ≤ zI (p : Int) by rw [zI_le (by omega) (by omega) (by omega) (by omega)]; omega)]
      rw [pflg, if_pos (Decidable.byContradiction fun h9 => absurd (flg_lt h9) (by omega))]
    · rw [f_Directive_readFlags_15, if_neg (show ¬ zI (l.length : Int) ≤ zI (p : Int) by rw [zI_le (by omega) (by omega) (by omega) (by omega)]; omega), row_at (by decide) h (by omega) (by omega) (by omega), b1s]
      obtain ⟨z, hz, z1, z2, z3⟩ := at_z hf (p : Int)
      obtain ⟨r, hr, hr2⟩ := flag_idx (N := N) (by omega) (z := z) (by omega) z2
      rw [pflg, hz, hr, b1s]
      rcases hr2 with ⟨r1, r2, r3⟩ | ⟨r1, r2⟩
      · rw [if_pos r1, if_neg r3, r2, show zI (p : Int) + 1 = zI ((p : Int) + 1) from zI_add _ 1, cast1 p, has_ok, b1s]
        have q1 := fun t' => ih fu (p + 1) (f ||| flg (zI z)) t' (by omega) (by omega) (by omega)
        unfold ptw
        by_cases ht : t = 0
        · rw [if_pos ht, if_pos ht]
          by_cases hg : f &&& flg (zI z) = 0
          · rw [if_pos hg, if_pos rfl]; exact q1 0
          · rw [if_neg hg, if_neg n10]; exact q1 1
        · rw [if_neg ht, if_neg ht]; exact q1 1
      · rw [if_neg r1, if_pos r2]
theorem rdRead {N : Nat} (hN : 1000000 < N) (hf : fmt l) (h : rwL 256 kept len l) {p : Nat} (hp : p < l.length) :
    f_Directive_read N 256 kept len (zI (p : Int)) = some (zI (pidx l (p + 1)).1, (pflg l 300 (pidx l (p + 1)).2 0 0).1, (pflg l 300 (pidx l (p + 1)).2 0 0).2.1, zI (pnum l 300 (pflg l 300 (pidx l (p + 1)).2 0 0).2.2 (-1)).1, zI (ppre l (pnum l 300 (pflg l 300 (pidx l (p + 1)).2 0 0).2.2 (-1)).2).1, atL l (ppre l (pnum l 300 (pflg l 300 (pidx l (p + 1)).2 0 0).2.2 (-1)).2).2, zI ((ppre l (pnum l 300 (pflg l 300 (pidx l (p + 1)).2 0 0).2.2 (-1)).2).2 : Int)) := by
  have hl := hf.1
  unfold f_Directive_read
  have e1 : f_Directive_readIndex N (zI (p : Int) + 1) 256 kept len = some (zI (pidx l (p + 1)).1, zI ((pidx l (p + 1)).2 : Int)) := by
    rw [show zI (p : Int) + 1 = zI ((p : Int) + 1) from zI_add _ 1, cast1 p]
    unfold f_Directive_readIndex pidx
    have hb := pnum_bd hf 300 (p + 1) (-1) (by omega) (by omega) (by omega)
    rw [row_at (by decide) h (by omega) (by omega) (by omega), b1s]
    by_cases q1 : atL l (p + 1 : Nat) = 48
    · rw [if_pos q1, if_pos q1]; rfl
    · rw [if_neg q1, if_neg q1, rdNumber hN hf h (by omega), b2s]
      by_cases q2 : (pnum l 300 (p + 1) (-1)).1 = -1
      · rw [if_pos q2, if_pos (by rw [q2]; rfl)]; rfl
      · rw [if_neg q2, if_neg (by rw [show (-1 : Int32) = zI (-1) from rfl, zI_eq (by omega) (by omega) (by omega) (by omega)]; exact q2), row_at (by decide) h (by omega) (by omega) (by omega), b1s]
        by_cases q3 : atL l (pnum l 300 (p + 1) (-1)).2 = 36
        · rw [if_pos q3, if_pos q3, show zI ((pnum l 300 (p + 1) (-1)).2 : Int) + 1 = zI (((pnum l 300 (p + 1) (-1)).2 : Int) + 1) from zI_add _ 1, cast1]
        · rw [if_neg q3, if_neg q3]; rfl
  have b1 := pidx_bd hf (p := p + 1) (by omega)
  rw [e1, b2s]
  have e2 : ∀ q : Nat, q ≤ l.length → f_Directive_readFlags N (zI (q : Int)) 256 kept len = some ((pflg l 300 q 0 0).1, (pflg l 300 q 0 0).2.1, zI ((pflg l 300 q 0 0).2.2 : Int)) := by
    intro q hq
    unfold f_Directive_readFlags
    rw [row_size h, b1s]
    exact rdFlags hN hf h 300 N q 0 0 hq (by omega) (by omega)
  rw [e2 _ b1.2.2.2, b3s]
  have b2 := pflg_bd (l := l) 300 (pidx l (p + 1)).2 0 0 b1.2.2.2 (Or.inl rfl)
  rw [rdNumber hN hf h b2.2.2, b2s]
  have b3 := pnum_bd hf 300 (pflg l 300 (pidx l (p + 1)).2 0 0).2.2 (-1) (by omega) (by omega) b2.2.2
  have e3 : ∀ q : Nat, q ≤ l.length → f_Directive_readPrecision N (zI (q : Int)) 256 kept len = some (zI (ppre l q).1, zI ((ppre l q).2 : Int)) := by
    intro q hq
    unfold f_Directive_readPrecision ppre
    rw [row_at (by decide) h (by omega) (by omega) (by omega), b1s]
    by_cases q1 : atL l q = 46
    · have := at_lt q1 (by decide)
      rw [if_pos q1, if_pos q1, show zI (q : Int) + 1 = zI ((q : Int) + 1) from zI_add _ 1, cast1 q, row_at (by decide) h (by omega) (by omega) (by omega), b1s]
      obtain ⟨z, hz, z1, z2, z3⟩ := at_z hf ((q + 1 : Nat) : Int)
      rw [hz, isDig z1 z2, b1s]
      by_cases q2 : 48 ≤ zI z ∧ zI z ≤ 57
      · rw [if_pos q2, if_pos q2, if_neg n10, rdNumber hN hf h (by omega), b2s]
      · rw [if_neg q2, if_neg q2, if_pos rfl]; rfl
    · rw [if_neg q1, if_neg q1]; rfl
  rw [e3 _ b3.2.2.2, b2s]
  have b4 := ppre_bd hf b3.2.2.2
  rw [row_at (by decide) h (by omega) (by omega) (by omega), b1s]
end PUparse
