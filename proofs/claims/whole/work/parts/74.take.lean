section PUtake
variable {kept : Nat → Int32} {len : Int32} {l : List Int32}
theorem pnum_ge (hf : fmt l) : ∀ (k p : Nat) (a b : Int), b ≤ a → 0 ≤ b → b ≤ 9999 → b ≤ (pnum l k p a).1 := by
  intro k
  induction k with
  | zero => intro p a b h1 h2 h3; exact h1
  | succ k ih =>
    intro p a b h1 h2 h3
    rw [pnum]
    split
    · rename_i hd
      obtain ⟨z, hz, z1, z2, z3⟩ := at_z hf (p : Int)
      rw [hz] at hd ⊢
      rw [zI_lit, zI_lit, zI_le (by omega) (by omega) (by omega) (by omega), zI_le (by omega) (by omega) (by omega) (by omega)] at hd
      rw [zI_toInt (by omega) (by omega)]
      exact ih (p + 1) _ b (by omega) h2 h3
    · exact h1
theorem pnum_dig (hf : fmt l) {p : Nat} (hd : 48 ≤ atL l p ∧ atL l p ≤ 57) : 0 ≤ (pnum l 300 p (-1)).1 ∧ (atL l p ≠ 48 → 1 ≤ (pnum l 300 p (-1)).1) := by
  obtain ⟨z, hz, z1, z2, z3⟩ := at_z hf (p : Int)
  rw [pnum, if_pos hd]
  rw [hz] at hd ⊢
  have hd2 := hd
  rw [zI_lit, zI_lit, zI_le (by omega) (by omega) (by omega) (by omega), zI_le (by omega) (by omega) (by omega) (by omega)] at hd2
  rw [zI_toInt (by omega) (by omega)]
  refine ⟨pnum_ge hf _ _ _ 0 (by omega) (by omega) (by omega), fun hne => pnum_ge hf _ _ _ 1 ?_ (by omega) (by omega)⟩
  rw [zI_lit, Ne, zI_eq (by omega) (by omega) (by omega) (by omega)] at hne
  omega
theorem mo_has (f c : Int32) : f_Mo_has f c = some (if f &&& flg c = 0 then 0 else 1) := by
  unfold f_Mo_has
  rw [mo_flag, b1s]
  split <;> rfl
def tailM (N : Nat) (kept : Nat → Int32) (len : Int32) (p ix f t w pr cv : Int32) : Option (Int32 × Int32 × Int32 × Int32 × Int32 × Int32 × Int32) := mm_b1 (f_Mo_isDigit 256 kept len p) (fun r_4 => (if r_4 = 0 then f_Mo_take_167 N 256 kept len p ix f t w pr cv else mm_b2 (f_Mo_number N 256 kept len p) (fun r_9 o_10 => f_Mo_take_167 N 256 kept len o_10 ix f t r_9 pr cv)))
theorem take_86 {N : Nat} (hf : fmt l) (h : rwL 256 kept len l) (ix w pr cv : Int32) : ∀ (k fuel p : Nat) (f t : Int32), (t = 0 ∨ t = 1) → p ≤ l.length → l.length ≤ p + k → k < fuel → f_Mo_take_86 N 256 kept len fuel (zI (p : Int)) ix f t w pr cv = tailM N kept len (zI ((pflg l k p f t).2.2 : Int)) ix (pflg l k p f t).1 (pflg l k p f t).2.1 w pr cv := by
  have hl := hf.1
  intro k
  induction k with
  | zero =>
    intro fuel p f t ht h3 h4 h5
    obtain ⟨fu, rfl, -⟩ := fuelS h5
    rw [f_Mo_take_86, moHere hf h p (by omega), b1s, mo_flag, b1s, if_pos (Decidable.byContradiction fun h9 => absurd (flg_lt h9) (by omega))]
    rfl
  | succ k ih =>
    intro fuel p f t ht h3 h4 h5
    obtain ⟨fu, rfl, hfu⟩ := fuelS h5
    rw [f_Mo_take_86, moHere hf h p (by omega), b1s, mo_flag, b1s, pflg]
    by_cases h9 : flg (atL l p) = 0
    · rw [if_pos h9, if_pos h9]
      rfl
    · have h8 := flg_lt h9
      rw [if_neg h9, if_neg h9]
      simp only [b1s, mo_has]
      unfold f_Mo_take_115 f_Mo_take_120
      simp only [moHere hf h p (by omega), b1s, mo_flag]
      rw [show zI (p : Int) + 1 = zI ((p : Int) + 1) from zI_add _ 1, cast1 p]
      simp only [true_or, or_true, if_true]
      have q1 := fun t' (h7 : t' = 0 ∨ t' = 1) => ih fu (p + 1) (f ||| flg (atL l p)) t' h7 (by omega) (by omega) (by omega)
      unfold ptw
      by_cases ht : t = 0
      · rw [if_pos ht, if_pos ht]
        by_cases hg : f &&& flg (atL l p) = 0
        · rw [if_pos hg, if_pos rfl]; exact q1 0 (Or.inl rfl)
        · rw [if_neg hg, if_neg n10]; exact q1 1 (Or.inr rfl)
      · rw [if_neg ht, if_neg ht]; exact q1 1 (Or.inr rfl)
def pAt (l : List Int32) (p : Nat) : Nat := if p < l.length then p + 1 else p
theorem take_239 (hf : fmt l) (h : rwL 256 kept len l) {p : Nat} (hp : p ≤ l.length) (ix f t w pr cv : Int32) : f_Mo_take_239 256 kept len (zI (p : Int)) ix f t w pr cv = some (zI (pAt l p : Int), ix, f, t, w, pr, atL l p) := by
  have hl := hf.1
  unfold f_Mo_take_239 pAt
  rw [moHere hf h p (by omega), b1s]
  obtain ⟨z, hz, z1, z2, z3⟩ := at_z hf (p : Int)
  rw [hz, show zI (p : Int) + 1 = zI ((p : Int) + 1) from zI_add _ 1, cast1 p, zI_lit]
  by_cases hl : p < l.length
  · rw [if_pos hl, if_pos (by rw [zI_le (by omega) (by omega) (by omega) (by omega)]; omega)]
  · rw [if_neg hl, if_neg (by rw [zI_le (by omega) (by omega) (by omega) (by omega)]; omega)]
theorem take_167 {N : Nat} (hN : 1000000 < N) (hf : fmt l) (h : rwL 256 kept len l) {p : Nat} (hp : p ≤ l.length) (ix f t w cv : Int32) : f_Mo_take_167 N 256 kept len (zI (p : Int)) ix f t w (-1) cv = some (zI (pAt l (ppre l p).2 : Int), ix, f, t, w, zI (ppre l p).1, atL l (ppre l p).2) := by
  have hl := hf.1
  unfold f_Mo_take_167 ppre
  rw [moHere hf h p (by omega), b1s]
  by_cases q1 : atL l p = 46
  · have hpl := at_lt q1 (by decide)
    rw [if_pos q1, if_pos q1, show zI (p : Int) + 1 = zI ((p : Int) + 1) from zI_add _ 1, cast1 p]
    by_cases q2 : l.length ≤ p + 1
    · have hr := h.1
      rw [hr, if_pos (by rw [zI_le (by omega) (by omega) (by omega) (by omega)]; omega), if_neg (show ¬ (48 ≤ atL l (p + 1 : Nat) ∧ atL l (p + 1 : Nat) ≤ 57) from fun hd => absurd (dg_lt hd) (by omega)), ← hr]
      exact take_239 hf h hp ix f t w (-1) cv
    · have h2 : p + 1 < l.length := by omega
      have hk := (h.2.2 (p + 1) _ (List.getElem?_eq_getElem h2)).2 (by omega)
      have ha : atL l (p + 1 : Nat) = kept (p + 1) := by
        unfold atL
        rw [if_pos (by omega), hk, List.getD_eq_getElem?_getD, show ((p + 1 : Nat) : Int).toNat = p + 1 by omega, List.getElem?_eq_getElem h2]
        rfl
      have hr := h.1
      rw [if_neg (by rw [hr, zI_le (by omega) (by omega) (by omega) (by omega)]; omega), zI_nat (by omega) (by omega), show ((p + 1 : Nat) : Int).toNat = p + 1 by omega, ← ha]
      have g : ¬ (zI ((p + 1 : Nat) : Int) < 0 ∨ 256 ≤ p + 1) := by
        rw [zI_lit, zI_lt (by omega) (by omega) (by omega) (by omega)]; omega
      rw [if_neg g, if_neg g]
      obtain ⟨z, hz, z1, z2, z3⟩ := at_z hf ((p + 1 : Nat) : Int)
      by_cases q3 : 48 ≤ atL l (p + 1 : Nat) ∧ atL l (p + 1 : Nat) ≤ 57
      · have q4 := q3
        rw [hz, zI_lit, zI_lit, zI_le (by omega) (by omega) (by omega) (by omega), zI_le (by omega) (by omega) (by omega) (by omega)] at q4
        rw [if_pos q3, if_neg (show ¬ atL l (p + 1 : Nat) < 48 by rw [hz, zI_lit, zI_lt (by omega) (by omega) (by omega) (by omega)]; omega), if_neg (show ¬ 57 < atL l (p + 1 : Nat) by rw [hz, zI_lit, zI_lt (by omega) (by omega) (by omega) (by omega)]; omega), moNumber hN hf h (by omega) q3, b2s]
        have b := pnum_bd hf 300 (p + 1) (-1) (by omega) (by omega) (by omega)
        exact take_239 hf h b.2.2.2 ix f t w _ cv
      · have q4 := q3
        rw [hz, zI_lit, zI_lit, zI_le (by omega) (by omega) (by omega) (by omega), zI_le (by omega) (by omega) (by omega) (by omega)] at q4
        rw [if_neg q3]
        have e := take_239 hf h hp ix f t w (-1) cv
        by_cases q5 : z < 48
        · rw [if_pos (show atL l (p + 1 : Nat) < 48 by rw [hz, zI_lit, zI_lt (by omega) (by omega) (by omega) (by omega)]; omega)]
          exact e
        · rw [if_neg (show ¬ atL l (p + 1 : Nat) < 48 by rw [hz, zI_lit, zI_lt (by omega) (by omega) (by omega) (by omega)]; omega), if_pos (show 57 < atL l (p + 1 : Nat) by rw [hz, zI_lit, zI_lt (by omega) (by omega) (by omega) (by omega)]; omega)]
          exact e
  · rw [if_neg q1, if_neg q1]
    exact take_239 hf h hp ix f t w (-1) cv
theorem tailM_ok {N : Nat} (hN : 1000000 < N) (hf : fmt l) (h : rwL 256 kept len l) {p : Nat} (hp : p ≤ l.length) (ix f t cv : Int32) : tailM N kept len (zI (p : Int)) ix f t (-1) (-1) cv = some (zI (pAt l (ppre l (pnum l 300 p (-1)).2).2 : Int), ix, f, t, zI (pnum l 300 p (-1)).1, zI (ppre l (pnum l 300 p (-1)).2).1, atL l (ppre l (pnum l 300 p (-1)).2).2) := by
  have hl := hf.1
  unfold tailM
  rw [moDig hf h p (by omega), b1s]
  have b := pnum_bd hf 300 p (-1) (by omega) (by omega) hp
  by_cases q : 48 ≤ atL l p ∧ atL l p ≤ 57
  · rw [if_pos q, if_neg n10, moNumber hN hf h hp q, b2s]
    exact take_167 hN hf h b.2.2.2 ix f t _ cv
  · rw [if_neg q, if_pos rfl, pnum_no q]
    exact take_167 hN hf h hp ix f t (-1) cv
def rIx (l : List Int32) (p : Nat) : Int := (pidx l p).1
def rFl (l : List Int32) (p : Nat) : Int32 := (pflg l 300 (pidx l p).2 0 0).1
def rTw (l : List Int32) (p : Nat) : Int32 := (pflg l 300 (pidx l p).2 0 0).2.1
def rWd (l : List Int32) (p : Nat) : Int := (pnum l 300 (pflg l 300 (pidx l p).2 0 0).2.2 (-1)).1
def rPr (l : List Int32) (p : Nat) : Int := (ppre l (pnum l 300 (pflg l 300 (pidx l p).2 0 0).2.2 (-1)).2).1
def rNx (l : List Int32) (p : Nat) : Nat := (ppre l (pnum l 300 (pflg l 300 (pidx l p).2 0 0).2.2 (-1)).2).2
theorem rd_class {N : Nat} (hN : 1000000 < N) (hf : fmt l) (h : rwL 256 kept len l) {p : Nat} (hp : p < l.length) : f_Directive_read N 256 kept len (zI (p : Int)) = some (zI (rIx l (p + 1)), rFl l (p + 1), rTw l (p + 1), zI (rWd l (p + 1)), zI (rPr l (p + 1)), atL l (rNx l (p + 1)), zI (rNx l (p + 1) : Int)) := rdRead hN hf h hp
theorem rd_bd (hf : fmt l) {p : Nat} (hp : p ≤ l.length) : -1 ≤ rIx l p ∧ rIx l p ≤ 9999 ∧ (rTw l p = 0 ∨ rTw l p = 1) ∧ -1 ≤ rWd l p ∧ rWd l p ≤ 9999 ∧ -1 ≤ rPr l p ∧ rPr l p ≤ 9999 ∧ p ≤ rNx l p ∧ rNx l p ≤ l.length := by
  have b1 := pidx_bd hf hp
  have b2 := pflg_bd (l := l) 300 (pidx l p).2 0 0 b1.2.2.2 (Or.inl rfl)
  have b3 := pnum_bd hf 300 (pflg l 300 (pidx l p).2 0 0).2.2 (-1) (by omega) (by omega) b2.2.2
  have b4 := ppre_bd hf b3.2.2.2
  unfold rIx rTw rWd rPr rNx
  refine ⟨b1.1, b1.2.1, b2.1, b3.1, b3.2.1, b4.1, b4.2.1, ?_, b4.2.2.2⟩
  omega
theorem rIx_ne (hf : fmt l) {p : Nat} (hp : p ≤ l.length) : rIx l p = -1 ∨ 1 ≤ rIx l p := by
  unfold rIx pidx
  split
  · exact Or.inl rfl
  · rename_i q1
    split
    · exact Or.inl rfl
    · rename_i q2
      split
      · refine Or.inr ?_
        by_cases q : 48 ≤ atL l p ∧ atL l p ≤ 57
        · exact (pnum_dig hf q).2 q1
        · exact absurd (by rw [pnum_no q]) q2
      · exact Or.inl rfl
theorem rd_ref {N : Nat} (hN : 1000000 < N) (hf : fmt l) (h : rwL 256 kept len l) {p : Nat} (hp : p ≤ l.length) (cv : Int32) : f_Mo_take N 256 kept len (zI (p : Int)) cv = some (zI (pAt l (rNx l p) : Int), zI (if rIx l p = -1 then 0 else rIx l p), rFl l p, rTw l p, zI (rWd l p), zI (rPr l p), atL l (rNx l p)) := by
  have hl := hf.1
  have b1 := pidx_bd hf hp
  have gen : ∀ (ix : Int32) (q : Nat), q = (pidx l p).2 → f_Mo_take_86 N 256 kept len N (zI (q : Int)) ix 0 0 (-1) (-1) cv = some (zI (pAt l (rNx l p) : Int), ix, rFl l p, rTw l p, zI (rWd l p), zI (rPr l p), atL l (rNx l p)) := by
    intro ix q hq
    subst hq
    rw [take_86 hf h ix (-1) (-1) cv 300 N _ 0 0 (Or.inl rfl) b1.2.2.2 (by omega) (by omega)]
    exact tailM_ok hN hf h (pflg_bd (l := l) 300 (pidx l p).2 0 0 b1.2.2.2 (Or.inl rfl)).2.2 ix _ _ cv
  unfold f_Mo_take
  rw [moDig hf h p (by omega), b1s]
  by_cases q : 48 ≤ atL l p ∧ atL l p ≤ 57
  · rw [if_pos q, if_neg n10, moHere hf h p (by omega), b1s]
    by_cases q1 : atL l p = 48
    · have e : pidx l p = (-1, p) := by unfold pidx; rw [if_pos q1]
      rw [if_pos q1, gen 0 p (by rw [e]), if_pos (show rIx l p = -1 by unfold rIx; rw [e])]
      rfl
    · have q2 := pnum_dig hf q
      have b := pnum_bd hf 300 p (-1) (by omega) (by omega) hp
      rw [if_neg q1, moNumber hN hf h hp q, b2s, moHere hf h _ (by omega), b1s]
      by_cases q3 : atL l (pnum l 300 p (-1)).2 = 36
      · have e : pidx l p = ((pnum l 300 p (-1)).1, (pnum l 300 p (-1)).2 + 1) := by unfold pidx; rw [if_neg q1, if_neg (by omega), if_pos q3]
        rw [if_pos q3, show zI ((pnum l 300 p (-1)).2 : Int) + 1 = zI (((pnum l 300 p (-1)).2 : Int) + 1) from zI_add _ 1, cast1, gen _ _ (by rw [e])]
        have e2 : rIx l p = (pnum l 300 p (-1)).1 := by unfold rIx; rw [e]
        rw [e2, if_neg (by omega)]
      · have e : pidx l p = (-1, p) := by unfold pidx; rw [if_neg q1, if_neg (by omega), if_neg q3]
        rw [if_neg q3, gen 0 p (by rw [e]), if_pos (show rIx l p = -1 by unfold rIx; rw [e])]
        rfl
  · have e : pidx l p = (-1, p) := by
      unfold pidx
      by_cases q1 : atL l p = 48
      · rw [if_pos q1]
      · rw [if_neg q1, pnum_no q, if_pos rfl]
    rw [if_neg q, if_pos rfl, gen 0 p (by rw [e]), if_pos (show rIx l p = -1 by unfold rIx; rw [e])]
    rfl
end PUtake
