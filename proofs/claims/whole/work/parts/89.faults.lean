section PUfaults
variable {N : Nat}
def inC (ch : Int32) : Bool := decide (ch = 98 ∨ ch = 115 ∨ ch = 99 ∨ ch = 100 ∨ ch = 101 ∨ ch = 102 ∨ ch = 103 ∨ ch = 111 ∨ ch = 120)
def cchk (c : Nat) : Bool := match f_String_indexOf 40 1 (mm_c (zI (c : Int))), f_String_indexOf 40 2 (mm_c (zI (c : Int))), f_Directive_smallConversion (zI (c : Int)), f_Mo_small (zI (c : Int)) with
  | some r1, some r2, some s1, some s2 => decide ((¬ 0 ≤ r1 ∧ s2 = 0) ∨ (0 ≤ r1 ∧ s2 ≠ 0 ∧ s1 = s2 ∧ ((s2 = 37 ∧ zI (c : Int) = 37) ∨ (s2 = 110 ∧ zI (c : Int) = 110) ∨ (inC s2 = true ∧ zI (c : Int) ≠ 37 ∧ zI (c : Int) ≠ 110)) ∧ ((r2 < 0 ∧ ¬ (s2 = 99 ∨ s2 = 37 ∨ s2 = 100 ∨ s2 = 111 ∨ s2 = 120)) ∨ (¬ r2 < 0 ∧ (s2 = 99 ∨ s2 = 37 ∨ s2 = 100 ∨ s2 = 111 ∨ s2 = 120)))))
  | _, _, _, _ => false
theorem cchk_ok : ∀ c, c < 256 → cchk c = true := by decide +kernel
theorem conv_facts (hN : 40 ≤ N) {z : Int} (h1 : 0 ≤ z) (h2 : z < 256) : ∃ r1 r2 s1 s2 : Int32, f_String_indexOf N 1 (mm_c (zI z)) = some r1 ∧ f_String_indexOf N 2 (mm_c (zI z)) = some r2 ∧ f_Directive_smallConversion (zI z) = some s1 ∧ f_Mo_small (zI z) = some s2 ∧ ((¬ 0 ≤ r1 ∧ s2 = 0) ∨ (0 ≤ r1 ∧ s2 ≠ 0 ∧ s1 = s2 ∧ ((s2 = 37 ∧ zI z = 37) ∨ (s2 = 110 ∧ zI z = 110) ∨ (inC s2 = true ∧ zI z ≠ 37 ∧ zI z ≠ 110)) ∧ ((r2 < 0 ∧ ¬ (s2 = 99 ∨ s2 = 37 ∨ s2 = 100 ∨ s2 = 111 ∨ s2 = 120)) ∨ (¬ r2 < 0 ∧ (s2 = 99 ∨ s2 = 37 ∨ s2 = 100 ∨ s2 = 111 ∨ s2 = 120))))) := by
  obtain ⟨c, rfl⟩ := Int.eq_ofNat_of_zero_le h1
  have h := cchk_ok c (by omega)
  rw [idx_fuel hN (by decide), idx_fuel hN (by decide)]
  unfold cchk at h
  split at h
  · rename_i r1 r2 s1 s2 e1 e2 e3 e4
    exact ⟨r1, r2, s1, s2, e1, e2, e3, e4, of_decide_eq_true h⟩
  · cases h
theorem mb4 (X : Option (Int32 × Int32 × Int32 × Int32)) : mm_b4 X (fun a b c d => some (a, b, c, d)) = X := by
  cases X with
  | none => rfl
  | some x => obtain ⟨a, b, c, d⟩ := x; rfl
theorem mb1 (X : Option Int32) : mm_b1 X (fun a => some a) = X := by
  cases X <;> rfl
def flF (fl al : Int32) (w : Int) : Int32 := if fl &&& (al ^^^ -1) = 0 then (if w < 0 ∧ (fl &&& 1 ≠ 0 ∨ fl &&& 8 ≠ 0) then 7 else if (fl &&& 1 ≠ 0 ∧ fl &&& 8 ≠ 0) ∨ (fl &&& 4 ≠ 0 ∧ fl &&& 128 ≠ 0) then 8 else 0) else 6
theorem flF_class {conv al : Int32} (hal : f_Directive_allowedFlags conv = some al) (fl : Int32) {w : Int} (w1 : -1 ≤ w) (w2 : w ≤ 9999) : f_Directive_faultOfFlags fl (zI w) conv = some (flF fl al w) := by
  unfold f_Directive_faultOfFlags f_Directive_faultOfFlags_45 f_Directive_faultOfFlags_62 flF
  have hw : (zI w = (-1 : Int32)) = (w < 0) := by
    rw [show (-1 : Int32) = zI (-1) from rfl, zI_eq (by omega) (by omega) (by omega) (by omega)]
    apply propext; omega
  rw [hal, b1s]
  simp only [hw, has_ok, b1s, hz1]
  by_cases a0 : fl &&& (al ^^^ -1) = 0
  · rw [if_pos a0, if_pos a0]
    by_cases a1 : fl &&& 1 = 0 <;> by_cases a2 : fl &&& 8 = 0 <;> by_cases a3 : fl &&& 4 = 0 <;> by_cases a4 : fl &&& 128 = 0 <;> by_cases a5 : w < 0 <;> simp [a1, a2, a3, a4, a5]
  · rw [if_neg a0, if_neg a0]
section
variable {args : Int32} {kinds sizes : Nat → Int32} {values : Nat → Int64} {index : Int32}
def goM (args : Int32) (kinds sizes : Nat → Int32) (values : Nat → Int64) (index fl arg nx lt ch : Int32) : Option (Int32 × Int32 × Int32 × Int32) := if ch = 37 then some (0, arg, nx, lt) else f_Mo_chosen args 9 kinds 9 sizes 9 values index fl nx lt ch
theorem flF_ref {ch al : Int32} (hal : f_Mo_allowed ch = some al) (fl : Int32) {w : Int} (w1 : -1 ≤ w) (w2 : w ≤ 9999) (arg nx lt : Int32) : f_Mo_looked_100 args 9 kinds 9 sizes 9 values index fl (zI w) arg nx lt ch = if flF fl al w = 0 then goM args kinds sizes values index fl arg nx lt ch else some (flF fl al w, arg, nx, lt) := by
  unfold f_Mo_looked_100 f_Mo_looked_135 f_Mo_looked_145 f_Mo_looked_163 f_Mo_looked_184 flF goM
  have hw : ((0 : Int32) ≤ zI w) = (¬ w < 0) := by
    rw [zI_lit, zI_le (by omega) (by omega) (by omega) (by omega)]
    apply propext; omega
  rw [hal, b1s]
  simp only [hw, mo_has, b1s, hz1, mb4, show flg 45 = 1 from by decide, show flg 48 = 8 from by decide, show flg 43 = 4 from by decide, show flg 32 = 128 from by decide]
  generalize (if ch = 37 then some ((0 : Int32), arg, nx, lt) else f_Mo_chosen args 9 kinds 9 sizes 9 values index fl nx lt ch) = G
  by_cases a0 : fl &&& (al ^^^ -1) = 0
  · rw [if_pos a0, if_pos a0]
    by_cases a1 : fl &&& 1 = 0 <;> by_cases a2 : fl &&& 8 = 0 <;> by_cases a3 : fl &&& 4 = 0 <;> by_cases a4 : fl &&& 128 = 0 <;> by_cases a5 : w < 0 <;> simp [a1, a2, a3, a4, a5]
  · rw [if_neg a0, if_neg a0, if_neg (by decide)]
theorem allowed_eq {conv ch : Int32} (h1 : f_Directive_smallConversion conv = some ch) : ∃ al, f_Directive_allowedFlags conv = some al ∧ f_Mo_allowed ch = some al := by
  unfold f_Directive_allowedFlags f_Mo_allowed
  rw [h1, b1s]
  repeat' split
  all_goals exact ⟨_, rfl, rfl⟩
theorem flF_pos {fl al : Int32} {w : Int} (h : flF fl al w ≠ 0) : ¬ flF fl al w ≤ 0 := by
  unfold flF at *
  split
  · split
    · decide
    · split
      · decide
      · rename_i a b c
        rw [if_pos a, if_neg b, if_neg c] at h
        exact absurd rfl h
  · decide
theorem form_join (hN : 1000000 < N) {z : Int} (z1 : -1 ≤ z) (z2 : z < 256) (fl tw : Int32) {w pr : Int} (w1 : -1 ≤ w) (w2 : w ≤ 9999) (p1 : -1 ≤ pr) (p2 : pr ≤ 9999) (arg nx lt : Int32) :
    (∃ r : Int32, ¬ r ≤ 0 ∧ r ≠ 0 ∧ f_Directive_faultOfForm N fl tw (zI w) (zI pr) (zI z) = some r ∧ f_Mo_looked args 9 kinds 9 sizes 9 values index fl tw (zI w) (zI pr) (zI z) arg nx lt = some (r, arg, nx, lt)) ∨
    (0 ≤ z ∧ f_Directive_faultOfForm N fl tw (zI w) (zI pr) (zI z) = some 0 ∧ ∃ ch : Int32, f_Directive_smallConversion (zI z) = some ch ∧ f_Mo_small (zI z) = some ch ∧
      ((f_Directive_takesArgument (zI z) = some 0 ∧ (ch = 37 ∨ ch = 110) ∧ f_Mo_looked args 9 kinds 9 sizes 9 values index fl tw (zI w) (zI pr) (zI z) arg nx lt = some (0, arg, nx, lt)) ∨
       (f_Directive_takesArgument (zI z) = some 1 ∧ inC ch = true ∧ f_Mo_looked args 9 kinds 9 sizes 9 values index fl tw (zI w) (zI pr) (zI z) arg nx lt = f_Mo_chosen args 9 kinds 9 sizes 9 values index fl nx lt ch))) := by
  by_cases hz : z = -1
  · subst hz
    refine Or.inl ⟨1, by decide, by decide, ?_, ?_⟩
    · unfold f_Directive_faultOfForm
      rw [if_pos (show zI (-1) = -1 by decide)]
    · unfold f_Mo_looked f_Mo_looked_16
      rw [show f_Mo_small (zI (-1)) = some 0 from by decide, b1s, if_pos (show zI (-1) < 0 by decide), if_neg (show ¬ (0 : Int32) ≤ zI (-1) by decide)]
  obtain ⟨r1, r2, s1, s2, e1, e2, e3, e4, hf⟩ := conv_facts (N := N) (z := z) (by omega) (by omega) z2
  have hneg : ¬ zI z = (-1 : Int32) := by
    rw [show (-1 : Int32) = zI (-1) from rfl, zI_eq (by omega) (by omega) (by omega) (by omega)]; exact hz
  have hlt : ¬ zI z < 0 := by rw [zI_lit, zI_lt (by omega) (by omega) (by omega) (by omega)]; omega
  have hge : (0 : Int32) ≤ zI z := by rw [zI_lit, zI_le (by omega) (by omega) (by omega) (by omega)]; omega
  rcases hf with ⟨f1, f2⟩ | ⟨f1, f2, f3, f4, f5⟩
  · refine Or.inl ⟨2, by decide, by decide, ?_, ?_⟩
    · unfold f_Directive_faultOfForm
      rw [if_neg hneg, e1, b1s, if_neg f1]
    · unfold f_Mo_looked f_Mo_looked_16
      rw [e4, b1s, if_neg hlt, if_pos f2, if_pos hge]
  subst f3
  by_cases ht : tw = 0
  rotate_left
  · refine Or.inl ⟨3, by decide, by decide, ?_, ?_⟩
    · unfold f_Directive_faultOfForm
      rw [if_neg hneg, e1, b1s, if_pos f1, if_neg ht]
    · unfold f_Mo_looked
      rw [e4, b1s, if_neg hlt, if_neg f2, if_neg ht]
  have hw : (zI w = (-1 : Int32)) = (w < 0) := by
    rw [show (-1 : Int32) = zI (-1) from rfl, zI_eq (by omega) (by omega) (by omega) (by omega)]
    apply propext; omega
  have hp : (zI pr = (-1 : Int32)) = (pr < 0) := by
    rw [show (-1 : Int32) = zI (-1) from rfl, zI_eq (by omega) (by omega) (by omega) (by omega)]
    apply propext; omega
  have hw2 : ((0 : Int32) ≤ zI w) = (¬ w < 0) := by
    rw [zI_lit, zI_le (by omega) (by omega) (by omega) (by omega)]
    apply propext; omega
  have hp2 : ((0 : Int32) ≤ zI pr) = (¬ pr < 0) := by
    rw [zI_lit, zI_le (by omega) (by omega) (by omega) (by omega)]
    apply propext; omega
  have hp3 : (zI pr < (0 : Int32)) = (pr < 0) := by
    rw [zI_lit, zI_lt (by omega) (by omega) (by omega) (by omega)]
  obtain ⟨al, al1, al2⟩ := allowed_eq e3
  have hF := flF_class al1 fl w1 w2
  have hG := flF_ref (args := args) (kinds := kinds) (sizes := sizes) (values := values) (index := index) al2 fl w1 w2 arg nx lt
  have hcl : f_Directive_faultOfForm N fl tw (zI w) (zI pr) (zI z) = (if zI z = (110 : Int32) then (if w < 0 then (if pr < 0 then (if fl = 0 then f_Directive_faultOfForm_68 N fl (zI w) (zI pr) (zI z) else some 4) else some 4) else some 4) else f_Directive_faultOfForm_68 N fl (zI w) (zI pr) (zI z)) := by
    unfold f_Directive_faultOfForm
    rw [if_neg hneg, e1, b1s, if_pos f1, if_pos ht]
    simp only [hw, hp]
  have h68 : f_Directive_faultOfForm_68 N fl (zI w) (zI pr) (zI z) = if pr < 0 then some (flF fl al w) else if r2 < 0 then some (flF fl al w) else some 5 := by
    unfold f_Directive_faultOfForm_68
    simp only [hp]
    rw [hF, e2]
    simp only [b1s]
  have hrf : f_Mo_looked args 9 kinds 9 sizes 9 values index fl tw (zI w) (zI pr) (zI z) arg nx lt = (if s1 = (110 : Int32) then (if 0 ≤ zI w then some ((4 : Int32), arg, nx, lt) else (if 0 ≤ zI pr then some ((4 : Int32), arg, nx, lt) else (if fl = 0 then some ((0 : Int32), arg, nx, lt) else some ((4 : Int32), arg, nx, lt)))) else (if zI pr < 0 then f_Mo_looked_100 args 9 kinds 9 sizes 9 values index fl (zI w) arg nx lt s1 else (if s1 = (99 : Int32) then some ((5 : Int32), arg, nx, lt) else (if s1 = (37 : Int32) then some ((5 : Int32), arg, nx, lt) else mm_b1 (f_Mo_isNumeric s1) (fun r_13 => (if r_13 = 0 then f_Mo_looked_100 args 9 kinds 9 sizes 9 values index fl (zI w) arg nx lt s1 else some ((5 : Int32), arg, nx, lt))))))) := by
    unfold f_Mo_looked
    rw [e4, b1s, if_neg hlt, if_neg f2, if_pos ht]
  simp only [hw2, hp2, hp3] at hrf
  have hnum : f_Mo_isNumeric s1 = some (if s1 = 100 ∨ s1 = 111 ∨ s1 = 120 then 1 else 0) := by
    unfold f_Mo_isNumeric
    by_cases a : s1 = 100
    · rw [if_pos a, if_pos (Or.inl a)]
    · rw [if_neg a]
      by_cases b : s1 = 111
      · rw [if_pos b, if_pos (Or.inr (Or.inl b))]
      · rw [if_neg b]
        by_cases c : s1 = 120
        · rw [if_pos c, if_pos (Or.inr (Or.inr c))]
        · rw [if_neg c, if_neg (by rintro (h | h | h); exact a h; exact b h; exact c h)]
  by_cases q110 : s1 = 110
  · have hzc : zI z = 110 := by
      rcases f4 with h | h | h
      · exact absurd (q110.symm.trans h.1) (by decide)
      · exact h.2
      · exfalso; rw [q110] at h; exact absurd h.1 (by decide)
    rw [if_pos hzc] at hcl
    rw [if_pos q110] at hrf
    by_cases hall : w < 0 ∧ pr < 0 ∧ fl = 0
    · obtain ⟨x1, x2, x3⟩ := hall
      rw [if_pos x1, if_pos x2, if_pos x3, h68, if_pos x2] at hcl
      rw [if_neg (fun h => h x1), if_neg (fun h => h x2), if_pos x3] at hrf
      refine Or.inr ⟨by omega, ?_, s1, e3, e4, Or.inl ⟨?_, Or.inr q110, hrf⟩⟩
      · rw [hcl]
        unfold flF
        have hz0 : ∀ x : Int32, (0 : Int32) &&& x = 0 := fun x => Int32.zero_and
        rw [x3, hz0, hz0, hz0, hz0, hz0]
        simp
      · unfold f_Directive_takesArgument
        rw [hzc]; rfl
    · refine Or.inl ⟨4, by decide, by decide, ?_, ?_⟩
      · rw [hcl]
        by_cases x1 : w < 0
        · rw [if_pos x1]
          by_cases x2 : pr < 0
          · rw [if_pos x2, if_neg (fun x3 => hall ⟨x1, x2, x3⟩)]
          · rw [if_neg x2]
        · rw [if_neg x1]
      · rw [hrf]
        by_cases x1 : w < 0
        · rw [if_neg (fun h => h x1)]
          by_cases x2 : pr < 0
          · rw [if_neg (fun h => h x2), if_neg (fun x3 => hall ⟨x1, x2, x3⟩)]
          · rw [if_pos x2]
        · rw [if_pos x1]
  have hzc : ¬ zI z = 110 := by
    rcases f4 with h | h | h
    · rw [h.2]; decide
    · exact absurd h.1 q110
    · exact h.2.2
  rw [if_neg hzc, h68] at hcl
  rw [if_neg q110, hnum, b1s] at hrf
  have hflags : f_Directive_faultOfForm N fl tw (zI w) (zI pr) (zI z) = some (flF fl al w) → f_Mo_looked args 9 kinds 9 sizes 9 values index fl tw (zI w) (zI pr) (zI z) arg nx lt = (if flF fl al w = 0 then goM args kinds sizes values index fl arg nx lt s1 else some (flF fl al w, arg, nx, lt)) → ((∃ r : Int32, ¬ r ≤ 0 ∧ r ≠ 0 ∧ f_Directive_faultOfForm N fl tw (zI w) (zI pr) (zI z) = some r ∧ f_Mo_looked args 9 kinds 9 sizes 9 values index fl tw (zI w) (zI pr) (zI z) arg nx lt = some (r, arg, nx, lt)) ∨
    (0 ≤ z ∧ f_Directive_faultOfForm N fl tw (zI w) (zI pr) (zI z) = some 0 ∧ ∃ ch : Int32, f_Directive_smallConversion (zI z) = some ch ∧ f_Mo_small (zI z) = some ch ∧
      ((f_Directive_takesArgument (zI z) = some 0 ∧ (ch = 37 ∨ ch = 110) ∧ f_Mo_looked args 9 kinds 9 sizes 9 values index fl tw (zI w) (zI pr) (zI z) arg nx lt = some (0, arg, nx, lt)) ∨
       (f_Directive_takesArgument (zI z) = some 1 ∧ inC ch = true ∧ f_Mo_looked args 9 kinds 9 sizes 9 values index fl tw (zI w) (zI pr) (zI z) arg nx lt = f_Mo_chosen args 9 kinds 9 sizes 9 values index fl nx lt ch)))) := by
    intro k1 k2
    by_cases hq : flF fl al w = 0
    · rw [hq] at k1
      rw [if_pos hq] at k2
      refine Or.inr ⟨by omega, k1, s1, e3, e4, ?_⟩
      unfold goM at k2
      unfold f_Directive_takesArgument
      rcases f4 with h | h | h
      · rw [if_pos h.1] at k2
        exact Or.inl ⟨by rw [if_pos h.2], Or.inl h.1, k2⟩
      · exact absurd h.1 q110
      · rw [if_neg (fun hh => by rw [hh] at h; exact absurd h.1 (by decide))] at k2
        exact Or.inr ⟨by rw [if_neg h.2.1, if_neg h.2.2], h.1, k2⟩
    · rw [if_neg hq] at k2
      exact Or.inl ⟨_, flF_pos hq, hq, k1, k2⟩
  by_cases hpr : pr < 0
  · rw [if_pos hpr] at hcl
    rw [if_pos hpr, hG] at hrf
    exact hflags hcl hrf
  · rw [if_neg hpr] at hcl hrf
    rcases f5 with ⟨g1, g2⟩ | ⟨g1, g2⟩
    · rw [if_pos g1] at hcl
      rw [if_neg (fun h => g2 (Or.inl h)), if_neg (fun h => g2 (Or.inr (Or.inl h))), if_neg (show ¬ (s1 = 100 ∨ s1 = 111 ∨ s1 = 120) from fun h => g2 (Or.inr (Or.inr h))), if_pos rfl, hG] at hrf
      exact hflags hcl hrf
    · rw [if_neg g1] at hcl
      refine Or.inl ⟨5, by decide, by decide, hcl, ?_⟩
      rw [hrf]
      rcases g2 with h | h | h
      · rw [if_pos h]
      · rw [if_neg (by rw [h]; decide), if_pos h]
      · by_cases a : s1 = 99
        · rw [if_pos a]
        · by_cases b : s1 = 37
          · rw [if_neg a, if_pos b]
          · rw [if_neg a, if_neg b, if_pos h, if_neg n10]
end
theorem inC_or {ch : Int32} (h : inC ch = true) : ch = 98 ∨ ch = 115 ∨ ch = 99 ∨ ch = 100 ∨ ch = 101 ∨ ch = 102 ∨ ch = 103 ∨ ch = 111 ∨ ch = 120 := of_decide_eq_true h
theorem lgl (v : Int64) : (lg_cmp v (0 : Int64) < 0) = (v.toInt < 0) := by
  obtain ⟨z, rfl, z1, z2⟩ := zJ_of v
  rw [zJ_toInt z1 z2]
  apply propext
  rw [lg_cmp_lt, zJ_lit, zJ_lt (by omega) (by omega) (by omega) (by omega)]
theorem lg255 (v : Int64) : (lg_cmp v (255 : Int64) ≤ 0) = (v.toInt ≤ 255) := by
  obtain ⟨z, rfl, z1, z2⟩ := zJ_of v
  rw [zJ_toInt z1 z2]
  apply propext
  rw [lg_cmp_le, zJ_lit, zJ_le (by omega) (by omega) (by omega) (by omega)]
def kdF (ch : Int32) (kind : Nat) (v : Int64) (sz : Int32) : Int32 := if kind = 0 ∨ ch = 98 ∨ ch = 115 then 0 else if ch = 99 then (if kind = 2 then 0 else if kind = 3 then (if sz = 64 then 10 else if v.toInt < 0 then 11 else if v.toInt ≤ 255 then 0 else 11) else 10) else if ch = 100 ∨ ch = 111 ∨ ch = 120 then (if kind = 3 then 0 else 10) else if kind = 5 then 0 else 10
theorem kdF_class {kind : Nat} {v : Int64} {sz ch : Int32} (hs : kind = 3 → sz = 8 ∨ sz = 16 ∨ sz = 32 ∨ sz = 64) (hc : inC ch = true) (hk : kind ≤ 5) : f_Argument_faultWith kind v sz ch = some (kdF ch kind v sz) := by
  have h64 : kind = 3 → ((64 : Int32) ≤ sz) = (sz = 64) := fun h => bits64 (hs h)
  unfold f_Argument_faultWith f_Argument_suits f_Argument_suits_83 kdF
  simp only [lgl, lg255]
  have hk6 : kind = 0 ∨ kind = 1 ∨ kind = 2 ∨ kind = 3 ∨ kind = 4 ∨ kind = 5 := by omega
  rcases inC_or hc with h | h | h | h | h | h | h | h | h <;> subst h <;> rcases hk6 with h | h | h | h | h | h <;> subst h <;> simp (decide := true) only [↓reduceIte, b1s, h64] <;> first | done | rfl | (repeat' split) <;> first | rfl | contradiction | simp_all [b1s]
theorem kdF_ref {kinds sizes : Nat → Int32} {values : Nat → Int64} {a : Nat} (ha : a < 9) {kind : Nat} {v : Int64} {sz ch : Int32} (hk0 : kinds a = zI (kind : Int)) (hv : values a = v) (hs : kind = 3 → sizes a = sz) (hc : inC ch = true) (hk : kind ≤ 5) {cnt : Int} (c1 : (a : Int) < cnt) (c2 : cnt ≤ 9) (nx lt : Int32) : f_Mo_chosen_58 (zI cnt) 9 kinds 9 sizes 9 values ch (zI (a : Int)) nx lt = some (kdF ch kind v sz, zI (a : Int), nx, zI (a : Int)) := by
  unfold f_Mo_chosen_58
  rw [if_neg (by rw [zI_lit, zI_lt (by omega) (by omega) (by omega) (by omega)]; omega), if_pos (by rw [zI_lt (by omega) (by omega) (by omega) (by omega)]; exact c1), if_neg (aok ha), if_neg (aok ha), anat ha, hk0]
  unfold f_Mo_chosen_120 f_Mo_chosen_121 f_Mo_chosen_147 f_Mo_chosen_151 f_Mo_chosen_152 f_Mo_chosen_176 f_Mo_chosen_180 f_Mo_chosen_181 f_Mo_chosen_206 f_Mo_chosen_215 f_Mo_chosen_219 f_Mo_chosen_220 f_Mo_isNumeric kdF
  simp only [if_neg (aok ha), if_neg (aok2 ha), anat ha, hv, lgl, lg255]
  have hk6 : kind = 0 ∨ kind = 1 ∨ kind = 2 ∨ kind = 3 ∨ kind = 4 ∨ kind = 5 := by omega
  rcases inC_or hc with h | h | h | h | h | h | h | h | h <;> subst h <;> rcases hk6 with h | h | h | h | h | h <;> subst h <;> simp (decide := true) only [↓reduceIte, b1s, hs, show zI ((0 : Nat) : Int) = 0 from rfl, show zI ((1 : Nat) : Int) = 1 from rfl, show zI ((2 : Nat) : Int) = 2 from rfl, show zI ((3 : Nat) : Int) = 3 from rfl, show zI ((4 : Nat) : Int) = 4 from rfl, show zI ((5 : Nat) : Int) = 5 from rfl] <;> first | done | rfl | (repeat' split) <;> first | rfl | contradiction | simp_all [b1s]
theorem kdF_suit {kind : Nat} {v : Int64} {sz ch : Int32} (h2 : kind = 2 → 0 ≤ v.toInt ∧ v.toInt ≤ 255) (hc : inC ch = true) (h : kdF ch kind v sz = 0) : suitP ch kind v := by
  unfold kdF at h
  unfold suitP
  split at h
  · rename_i q
    rcases q with q | q | q
    · exact Or.inl q
    · exact Or.inr (Or.inl q)
    · exact Or.inr (Or.inr (Or.inl q))
  · rename_i q0
    split at h
    · rename_i q
      refine Or.inr (Or.inr (Or.inr (Or.inl ⟨q, ?_⟩)))
      split at h
      · rename_i k; exact h2 k
      · split at h
        · split at h
          · exact absurd h (by decide)
          · split at h
            · exact absurd h (by decide)
            · split at h
              · rename_i u1 u2; exact ⟨by omega, u2⟩
              · exact absurd h (by decide)
        · exact absurd h (by decide)
    · split at h
      · rename_i q1 q
        split at h
        · rename_i k; exact Or.inr (Or.inr (Or.inr (Or.inr (Or.inl ⟨q, k⟩))))
        · exact absurd h (by decide)
      · rename_i q1 q
        split at h
        · rename_i k
          refine Or.inr (Or.inr (Or.inr (Or.inr (Or.inr ⟨?_, k⟩))))
          rcases inC_or hc with h | h | h | h | h | h | h | h | h
          · exact absurd (Or.inr (Or.inl h)) q0
          · exact absurd (Or.inr (Or.inr h)) q0
          · exact absurd h q1
          · exact absurd (Or.inl h) q
          · exact Or.inl h
          · exact Or.inr (Or.inl h)
          · exact Or.inr (Or.inr h)
          · exact absurd (Or.inr (Or.inl h)) q
          · exact absurd (Or.inr (Or.inr h)) q
        · exact absurd h (by decide)
theorem kdF_pos {ch : Int32} {kind : Nat} {v : Int64} {sz : Int32} (h : kdF ch kind v sz ≠ 0) : ¬ kdF ch kind v sz ≤ 0 := by
  have : kdF ch kind v sz = 0 ∨ kdF ch kind v sz = 10 ∨ kdF ch kind v sz = 11 := by
    unfold kdF
    repeat' split
    all_goals simp
  rcases this with q | q | q
  · exact absurd q h
  · rw [q]; decide
  · rw [q]; decide
theorem choose_join {fl : Int32} {ix u p : Int} (i1 : ix = -1 ∨ 1 ≤ ix) (i2 : ix ≤ 9999) (u1 : 0 ≤ u) (u2 : u ≤ 1000) (p1 : 0 ≤ p) (p2 : p ≤ 9) {kinds sizes : Nat → Int32} {values : Nat → Int64} (cnt : Int32) (ch : Int32) :
    ∃ nu u' : Int, 0 ≤ nu ∧ nu ≤ 10000 ∧ u ≤ u' ∧ u' ≤ u + 1 ∧ f_DP_chooseArgument (zI ix) fl (zI u) (zI p) = some (zI nu, zI u') ∧ f_Mo_chosen cnt 9 kinds 9 sizes 9 values (zI (if ix = -1 then 0 else ix)) fl (zI u) (zI (p - 1)) ch = f_Mo_chosen_58 cnt 9 kinds 9 sizes 9 values ch (zI (nu - 1)) (zI u') (zI (p - 1)) := by
  unfold f_DP_chooseArgument f_Mo_chosen
  simp only [has_ok, mo_has, show flg 60 = 64 from by decide, b1s, hz1]
  rw [show (-1 : Int32) = zI (-1) from rfl]
  by_cases q : fl &&& 64 = 0
  · rw [if_pos q, if_pos q]
    by_cases q2 : ix = -1
    · rw [if_pos (by rw [q2]), if_pos q2, if_pos (show zI 0 ≤ 0 by decide), show zI u + 1 = zI (u + 1) from zI_add _ 1]
      refine ⟨u + 1, u + 1, by omega, by omega, by omega, by omega, rfl, ?_⟩
      rw [show u + 1 - 1 = u by omega]
    · rw [if_neg (by rw [zI_eq (by omega) (by omega) (by omega) (by omega)]; exact q2), if_neg q2, if_neg (by rw [zI_lit, zI_le (by omega) (by omega) (by omega) (by omega)]; omega), show zI ix - 1 = zI (ix - 1) from zI_sub _ 1]
      exact ⟨ix, u, by omega, by omega, by omega, by omega, rfl, rfl⟩
  · rw [if_neg q, if_neg q]
    exact ⟨p, u, by omega, by omega, by omega, by omega, rfl, rfl⟩
theorem numbered {cnt nu : Int} (c1 : 0 ≤ cnt) (c2 : cnt ≤ 9) (n1 : 0 ≤ nu) (n2 : nu ≤ 10000) : f_DP_argumentNumbered (zI cnt) (zI nu) = some (if nu < 1 ∨ cnt < nu then none else some (nu - 1).toNat) := by
  unfold f_DP_argumentNumbered
  rw [show nI 9 = zI 9 from rfl, show (1 : Int32) = zI 1 from rfl, zI_sub]
  by_cases q : nu < 1
  · rw [if_pos (by rw [zI_lt (by omega) (by omega) (by omega) (by omega)]; exact q), if_pos (Or.inl q)]
  · rw [if_neg (by rw [zI_lt (by omega) (by omega) (by omega) (by omega)]; exact q)]
    by_cases q2 : cnt < nu
    · rw [if_pos (by rw [zI_lt (by omega) (by omega) (by omega) (by omega)]; exact q2), if_pos (Or.inr q2)]
    · rw [if_neg (by rw [zI_lt (by omega) (by omega) (by omega) (by omega)]; exact q2), if_pos (by rw [zI_le (by omega) (by omega) (by omega) (by omega)]; omega), zI_nat (by omega) (by omega), if_neg (by rw [zI_lit, zI_lt (by omega) (by omega) (by omega) (by omega)]; omega), if_neg (by omega)]
end PUfaults
