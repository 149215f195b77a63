section PUcompose
variable {N : Nat}
theorem rw_take {n : Nat} {kept : Nat → Int32} {len : Int32} {l : List Int32} (h : rwL n kept len l) {s : Nat} (hs : s ≤ l.length) : rwL n kept (zI (s : Int)) (l.take s) := by
  obtain ⟨-, hb, hk⟩ := h
  have hl : (l.take s).length = s := by rw [List.length_take]; omega
  refine ⟨by rw [hl], by omega, fun j c hj => ?_⟩
  rw [List.getElem?_take] at hj
  split at hj
  · exact hk j c hj
  · cases hj
theorem rw_nil {n : Nat} (kept : Nat → Int32) : rwL n kept 0 [] := ⟨rfl, by decide, fun j c hj => by cases hj⟩
def cutL (P : List Int32) (pr : Int) : List Int32 := if pr < 0 then P else P.take pr.toNat
theorem cutL_len (P : List Int32) (pr : Int) : (cutL P pr).length ≤ P.length := by
  unfold cutL
  split
  · exact Nat.le_refl _
  · rw [List.length_take]; omega
theorem shorten_ok {paper : Nat → Int32} {plen : Int32} {D P : List Int32} (h : rwL 4096 paper plen (D ++ P)) (hD : D.length ≤ 10000) {pr : Int} (p1 : -1 ≤ pr) (p2 : pr ≤ 9999) : ∃ l', f_Composer_shorten plen (zI (D.length : Int)) (zI pr) = some l' ∧ rwL 4096 paper l' (D ++ cutL P pr) := by
  unfold f_Composer_shorten cutL
  by_cases q : pr = -1
  · rw [if_pos (by rw [q]; rfl), if_pos (by omega)]
    exact ⟨_, rfl, h⟩
  · rw [show (-1 : Int32) = zI (-1) from rfl, if_neg (by rw [zI_eq (by omega) (by omega) (by omega) (by omega)]; exact q), if_neg (by omega), zI_add]
    obtain ⟨l', e, r⟩ := row_cut h (s := (D.length : Int) + pr) (by omega) (by omega)
    rw [e, b1s]
    refine ⟨l', rfl, ?_⟩
    rw [show ((D.length : Int) + pr).toNat = D.length + pr.toNat by omega, List.take_append, List.take_of_length_le (by omega), show D.length + pr.toNat - D.length = pr.toNat by omega] at r
    exact r
theorem m212 {piece : Nat → Int32} {size : Int32} {P : List Int32} (h : rwL 20200 piece size P) {w pr : Int} (p1 : -1 ≤ pr) (p2 : pr ≤ 9999) (hP : P.length ≤ 20200) (conv fl fr pd : Int32) (F : Nat → Int32) (mn pt : Int32) : ∃ l', f_Mo_make_212 N (zI w) (zI pr) conv 20200 fl piece size fr pd F mn pt = f_Mo_make_238 N (zI w) conv 20200 fl piece l' fr pd F mn pt ∧ rwL 20200 piece l' (cutL P pr) := by
  unfold f_Mo_make_212 cutL
  by_cases q : pr < 0
  · rw [if_pos (by rw [zI_lit, zI_lt (by omega) (by omega) (by omega) (by omega)]; exact q), if_pos q]
    exact ⟨_, rfl, h⟩
  · rw [if_neg (by rw [zI_lit, zI_lt (by omega) (by omega) (by omega) (by omega)]; exact q), if_neg q, h.1]
    by_cases q2 : (P.length : Int) ≤ pr
    · rw [if_pos (by rw [zI_le (by omega) (by omega) (by omega) (by omega)]; exact q2), List.take_of_length_le (by omega)]
      refine ⟨_, rfl, ?_⟩
      rw [← h.1]
      exact h
    · rw [if_neg (by rw [zI_le (by omega) (by omega) (by omega) (by omega)]; exact q2)]
      have r := rw_take h (s := pr.toNat) (by omega)
      rw [show ((pr.toNat : Nat) : Int) = pr by omega] at r
      exact ⟨_, rfl, r⟩
def suitP (ch : Int32) (kind : Nat) (v : Int64) : Prop := kind = 0 ∨ ch = 98 ∨ ch = 115 ∨ (ch = 99 ∧ 0 ≤ v.toInt ∧ v.toInt ≤ 255) ∨ ((ch = 100 ∨ ch = 111 ∨ ch = 120) ∧ kind = 3) ∨ ((ch = 101 ∨ ch = 102 ∨ ch = 103) ∧ kind = 5)
theorem bits64 {sz : Int32} (h : sz = 8 ∨ sz = 16 ∨ sz = 32 ∨ sz = 64) : ((64 : Int32) ≤ sz) = (sz = 64) := by
  rcases h with h | h | h | h <;> (rw [h]; decide)
theorem compose_join (hN : 1000000 < N) {kind : Nat} {v : Int64} {sz : Int32} {tk : Nat → Int32} {tlen : Int32} {kinds sizes texts : Nat → Int32} {values : Nat → Int64} {a : Nat} (ha : a < 9) (h : argOK kind v sz tk tlen (kinds a) (values a) (sizes a) texts a) {conv ch : Int32} (hch : f_Directive_smallConversion conv = some ch) (hch2 : f_Mo_small conv = some ch) (hcv : ch = 98 ∨ ch = 115 ∨ ch = 99 ∨ ch = 100 ∨ ch = 101 ∨ ch = 102 ∨ ch = 103 ∨ ch = 111 ∨ ch = 120) (hsu : suitP ch kind v) (fl : Int32) {w pr : Int} (w1 : -1 ≤ w) (w2 : w ≤ 9999) (p1 : -1 ≤ pr) (p2 : pr ≤ 9999) :
    ∃ Q : List Int32, Q.length ≤ 20200 ∧
      (∀ (paper : Nat → Int32) (plen : Int32) (D : List Int32) (dd : Nat → Int32) (cc ss be we : Int32), rwL 4096 paper plen D → D.length ≤ 4096 → ∃ (k' : Nat → Int32) (l' : Int32) (d' : Nat → Int32) (c' s' t' z' b' w' : Int32), f_Composer_compose_A N 4096 paper plen 24 dd cc ss be we fl (zI w) (zI pr) conv kind v sz 64 tk tlen = some (k', l', d', c', s', t', z', b', w') ∧ rwL 4096 k' l' (D ++ Q)) ∧
      (∀ (piece : Nat → Int32) (F : Nat → Int32) (mn pt : Int32), ∃ (fl' : Int32) (k' : Nat → Int32) (l' fr' pd' : Int32) (F' : Nat → Int32) (m' pt' : Int32), f_Mo_make N 9 kinds 9 sizes 9 values 576 texts fl (zI w) (zI pr) conv (zI (a : Int)) 20200 piece 64 F mn pt = some (fl', k', l', fr', pd', F', m', pt') ∧ rwL 20200 k' l' Q) := by
  have fin : ∀ (P : List Int32) (fr : Int) (pd : Int32), P.length ≤ 20200 → 0 ≤ fr → fr ≤ (P.length : Int) →
      (∀ (paper : Nat → Int32) (plen : Int32) (D : List Int32) (dd : Nat → Int32) (cc ss be we : Int32), rwL 4096 paper plen D → D.length ≤ 4096 → ∃ (k1 : Nat → Int32) (l1 : Int32) (d1 : Nat → Int32) (c1 s1 za b1 y1 : Int32), f_Composer_compose_A N 4096 paper plen 24 dd cc ss be we fl (zI w) (zI pr) conv kind v sz 64 tk tlen = f_Composer_compose_A_173 N 4096 fl (zI w) conv k1 l1 d1 c1 s1 (zI (D.length : Int)) za b1 y1 ∧ rwL 4096 k1 l1 (D ++ P) ∧ ((za = -1 ∧ pd = 0) ∨ (za = zI ((D.length : Int) + fr) ∧ pd = (if fl &&& 8 = 0 then 0 else 1)))) →
      (∀ (piece : Nat → Int32) (F : Nat → Int32) (mn pt : Int32), ∃ (fl2 : Int32) (k1 : Nat → Int32) (l1 : Int32) (F1 : Nat → Int32) (m1 pt1 : Int32), f_Mo_make N 9 kinds 9 sizes 9 values 576 texts fl (zI w) (zI pr) conv (zI (a : Int)) 20200 piece 64 F mn pt = f_Mo_make_238 N (zI w) conv 20200 fl2 k1 l1 (zI fr) pd F1 m1 pt1 ∧ rwL 20200 k1 l1 P ∧ fl2 &&& 1 = fl &&& 1) →
      ∃ Q : List Int32, Q.length ≤ 20200 ∧
      (∀ (paper : Nat → Int32) (plen : Int32) (D : List Int32) (dd : Nat → Int32) (cc ss be we : Int32), rwL 4096 paper plen D → D.length ≤ 4096 → ∃ (k' : Nat → Int32) (l' : Int32) (d' : Nat → Int32) (c' s' t' z' b' w' : Int32), f_Composer_compose_A N 4096 paper plen 24 dd cc ss be we fl (zI w) (zI pr) conv kind v sz 64 tk tlen = some (k', l', d', c', s', t', z', b', w') ∧ rwL 4096 k' l' (D ++ Q)) ∧
      (∀ (piece : Nat → Int32) (F : Nat → Int32) (mn pt : Int32), ∃ (fl' : Int32) (k' : Nat → Int32) (l' fr' pd' : Int32) (F' : Nat → Int32) (m' pt' : Int32), f_Mo_make N 9 kinds 9 sizes 9 values 576 texts fl (zI w) (zI pr) conv (zI (a : Int)) 20200 piece 64 F mn pt = some (fl', k', l', fr', pd', F', m', pt') ∧ rwL 20200 k' l' Q) := by
    intro P fr pd hP f1 f2 hC hR
    refine ⟨finL fl w conv P fr pd, ?_, ?_, ?_⟩
    · rw [finL_len]; omega
    · intro paper plen D dd cc ss be we hr hD
      obtain ⟨k1, l1, d1, c1, s1, za, b1, y1, e, r, hz⟩ := hC paper plen D dd cc ss be we hr hD
      obtain ⟨k2, l2, e2, -, r2⟩ := fin_class hN r (by omega) hP w1 w2 f1 f2 hz conv d1 c1 s1 b1 y1
      rw [e, e2]
      exact ⟨k2, l2, _, _, _, _, _, _, _, rfl, r2⟩
    · intro piece F mn pt
      obtain ⟨fl2, k1, l1, F1, m1, pt1, e, r, hf⟩ := hR piece F mn pt
      obtain ⟨k2, l2, e2, r2⟩ := fin_ref (pd := pd) hN r hP hf w1 w2 f1 f2 conv F1 m1 pt1
      rw [e, e2]
      exact ⟨_, k2, l2, _, _, _, _, _, rfl, r2⟩
  have hk := h.1
  have hv := h.2.1
  have h5 := h.2.2.1
  have n37 : ¬ ch = 37 := by rcases hcv with h | h | h | h | h | h | h | h | h <;> (rw [h]; decide)
  have n110 : ¬ ch = 110 := by rcases hcv with h | h | h | h | h | h | h | h | h <;> (rw [h]; decide)
  have hk0 : (kinds a = 0) = (kind = 0) := by
    rw [hk]
    exact zkne (j := 0) h5 (by omega)
  have mk : ∀ (piece : Nat → Int32) (F : Nat → Int32) (mn pt : Int32), f_Mo_make N 9 kinds 9 sizes 9 values 576 texts fl (zI w) (zI pr) conv (zI (a : Int)) 20200 piece 64 F mn pt = f_Mo_make_49 N 9 kinds 9 sizes 9 values 576 texts (zI w) (zI pr) conv (zI (a : Int)) 20200 64 fl piece 0 0 0 F mn pt ch (if kind = 0 then 1 else 0) := by
    intro piece F mn pt
    unfold f_Mo_make f_Mo_make_48
    rw [hch2, b1s, if_neg n37, if_neg n110, if_neg (aok ha), anat ha]
    simp only [hk0]
    split <;> rfl
  have m200a : ch = 98 ∨ ch = 115 → ∀ (fl2 : Int32) (k1 : Nat → Int32) (l1 : Int32) (F1 : Nat → Int32) (m1 pt1 : Int32), f_Mo_make_200 N (zI w) (zI pr) conv 20200 fl2 k1 l1 0 0 F1 m1 pt1 ch = f_Mo_make_212 N (zI w) (zI pr) conv 20200 fl2 k1 l1 0 0 F1 m1 pt1 := by
    intro hh fl2 k1 l1 F1 m1 pt1
    unfold f_Mo_make_200
    by_cases q : ch = 98
    · rw [if_pos q]
    · rw [if_neg q, if_pos (hh.resolve_left q)]
  have m200b : ch ≠ 98 → ch ≠ 115 → ∀ (fl2 : Int32) (k1 : Nat → Int32) (l1 f1 p1 : Int32) (F1 : Nat → Int32) (m1 pt1 : Int32), f_Mo_make_200 N (zI w) (zI pr) conv 20200 fl2 k1 l1 f1 p1 F1 m1 pt1 ch = f_Mo_make_238 N (zI w) conv 20200 fl2 k1 l1 f1 p1 F1 m1 pt1 := by
    intro x1 x2 fl2 k1 l1 f1 p1 F1 m1 pt1
    unfold f_Mo_make_200
    rw [if_neg x1, if_neg x2]
  by_cases q98 : ch = 98
  · obtain ⟨W, hW14, hF, hW3, hM⟩ : ∃ W : Nat, W < 14 ∧ (f_Argument_isFalse kind v = some (if W = 3 then 1 else 0)) ∧ (W = 3 ∨ W = 4) ∧ (∀ (piece F : Nat → Int32) (mn pt : Int32), f_Mo_make_49 N 9 kinds 9 sizes 9 values 576 texts (zI w) (zI pr) conv (zI (a : Int)) 20200 64 fl piece 0 0 0 F mn pt ch (if kind = 0 then 1 else 0) = mm_b2 (f_Mo_word N 20200 piece 0 (if W = 3 then 435728179558 else 1702195828)) (fun o_23 o_24 => f_Mo_make_200 N (zI w) (zI pr) conv 20200 fl o_23 o_24 0 0 F mn pt ch)) := by
      by_cases z : kind = 0
      · refine ⟨3, by decide, ?_, Or.inl rfl, ?_⟩
        · unfold f_Argument_isFalse; rw [if_pos z, if_pos rfl]
        · intro piece F mn pt
          unfold f_Mo_make_49 f_Mo_make_119 f_Mo_make_124 f_Mo_make_139
          rw [if_neg n37, if_neg n110, if_pos q98, if_pos z, if_neg n10, if_neg n10, if_pos rfl]
      · by_cases z1 : kind = 1 ∧ v = 0
        · refine ⟨3, by decide, ?_, Or.inl rfl, ?_⟩
          · unfold f_Argument_isFalse; rw [if_neg z, if_pos z1.1, if_pos ((lg_cmp_eq _ _).mpr z1.2), if_pos rfl]
          · intro piece F mn pt
            unfold f_Mo_make_49 f_Mo_make_119 f_Mo_make_124 f_Mo_make_139
            rw [if_neg n37, if_neg n110, if_pos q98, if_neg z, if_pos rfl, if_neg (aok ha), anat ha, hk, z1.1, if_pos (show zI ((1 : Nat) : Int) = 1 by decide), if_neg (aok2 ha), hv, if_pos ((lg_cmp_eq _ _).mpr z1.2), if_neg n10, if_pos rfl]
        · refine ⟨4, by decide, ?_, Or.inr rfl, ?_⟩
          · unfold f_Argument_isFalse
            rw [if_neg z, if_neg (show ¬ (4 : Nat) = 3 by decide)]
            simp only [lgz]
            by_cases z2 : kind = 1
            · rw [if_pos z2, if_neg (fun hh => z1 ⟨z2, hh⟩)]
            · rw [if_neg z2]
          · intro piece F mn pt
            unfold f_Mo_make_49 f_Mo_make_123 f_Mo_make_124 f_Mo_make_139
            rw [if_neg n37, if_neg n110, if_pos q98, if_neg z, if_pos rfl, if_neg (aok ha), anat ha, hk, if_neg (aok2 ha), hv, if_neg (show ¬ (4 : Nat) = 3 by decide)]
            simp only [lgz, ↓reduceIte]
            by_cases z2 : kind = 1
            · rw [z2, if_pos (show zI ((1 : Nat) : Int) = 1 by decide), if_neg (fun hh => z1 ⟨z2, hh⟩)]
            · rw [if_neg (by rw [show (1 : Int32) = zI ((1 : Nat) : Int) from rfl, zkne h5 (by omega)]; exact z2)]
    refine fin (cutL (kW W) pr) 0 0 (by have := cutL_len (kW W) pr; have := kW_len hW14; omega) (by omega) (by omega) ?_ ?_
    · intro paper plen D dd cc ss be we hr hD
      obtain ⟨k1, l1, e1, r1⟩ := row_addWord (N := N) (k := W) (by decide) hW14 hr (by omega) hN
      obtain ⟨l2, e2, r2⟩ := shorten_ok r1 (by omega) p1 p2
      refine ⟨k1, l2, dd, cc, ss, -1, be, we, ?_, r2, Or.inl ⟨rfl, rfl⟩⟩
      unfold f_Composer_compose_A f_Composer_compose_A_72 f_Composer_compose_A_72_2
      rw [row_size hr, b1s, hch, b1s, if_pos q98, hF, b1s]
      rcases hW3 with w3 | w3
      · subst w3
        rw [if_pos rfl, if_neg n10, e1, b2s, e2, b1s]
      · subst w3
        rw [if_neg (show ¬ (4 : Nat) = 3 by decide), if_pos rfl, e1, b2s, e2, b1s]
    · intro piece F mn pt
      have hwd : ∃ (k' : Nat → Int32) (l' : Int32), f_Mo_word N 20200 piece 0 (if W = 3 then 435728179558 else 1702195828) = some (k', l') ∧ rwL 20200 k' l' (kW W) := by
        rcases hW3 with w3 | w3
        · subst w3
          exact word_false (l := []) hN (rw_nil piece) (by decide)
        · subst w3
          exact word_true (l := []) hN (rw_nil piece) (by decide)
      obtain ⟨k1, l1, e1, r1⟩ := hwd
      obtain ⟨l2, e2, r2⟩ := m212 (N := N) (w := w) r1 p1 p2 (by have := kW_len hW14; omega) conv fl 0 0 F mn pt
      refine ⟨fl, k1, l2, F, mn, pt, ?_, r2, rfl⟩
      rw [mk, hM, e1, b2s, m200a (Or.inl q98), e2]
      rfl
  by_cases z : kind = 0
  · have h49 : ∀ (piece F : Nat → Int32) (mn pt : Int32), f_Mo_make_49 N 9 kinds 9 sizes 9 values 576 texts (zI w) (zI pr) conv (zI (a : Int)) 20200 64 fl piece 0 0 0 F mn pt ch (if kind = 0 then 1 else 0) = mm_b2 (f_Mo_word N 20200 piece 0 1819047278) (fun o_23 o_24 => f_Mo_make_200 N (zI w) (zI pr) conv 20200 fl o_23 o_24 0 0 F mn pt ch) := by
      intro piece F mn pt
      unfold f_Mo_make_49
      rw [if_neg n37, if_neg n110, if_neg q98, if_pos z, if_neg n10]
    have h14 := kW_len (w := 5) (by decide)
    by_cases q115 : ch = 115
    · refine fin (cutL (kW 5) pr) 0 0 (by have := cutL_len (kW 5) pr; omega) (by omega) (by omega) ?_ ?_
      · intro paper plen D dd cc ss be we hr hD
        obtain ⟨k1, l1, e1, r1⟩ := row_addWord (N := N) (k := 5) (by decide) (by decide) hr (by omega) hN
        obtain ⟨l2, e2, r2⟩ := shorten_ok r1 (by omega) p1 p2
        refine ⟨k1, l2, dd, cc, ss, -1, be, we, ?_, r2, Or.inl ⟨rfl, rfl⟩⟩
        unfold f_Composer_compose_A f_Composer_addPlain
        rw [row_size hr, b1s, hch, b1s, if_neg q98, if_pos q115, if_pos z, e1, b2s, b6s, e2, b1s]
      · intro piece F mn pt
        obtain ⟨k1, l1, e1, r1⟩ := word_null (l := []) hN (rw_nil piece) (by decide)
        obtain ⟨l2, e2, r2⟩ := m212 (N := N) (w := w) r1 p1 p2 (by rw [List.nil_append]; omega) conv fl 0 0 F mn pt
        refine ⟨fl, k1, l2, F, mn, pt, ?_, r2, rfl⟩
        rw [mk, h49, e1, b2s, m200a (Or.inr q115), e2]
        rfl
    · refine fin (kW 5) 0 0 (by omega) (by omega) (by omega) ?_ ?_
      · intro paper plen D dd cc ss be we hr hD
        obtain ⟨k1, l1, e1, r1⟩ := row_addWord (N := N) (k := 5) (by decide) (by decide) hr (by omega) hN
        refine ⟨k1, l1, dd, cc, ss, -1, be, we, ?_, r1, Or.inl ⟨rfl, rfl⟩⟩
        unfold f_Composer_compose_A
        rw [row_size hr, b1s, hch, b1s, if_neg q98, if_neg q115, if_pos z, e1, b2s]
      · intro piece F mn pt
        obtain ⟨k1, l1, e1, r1⟩ := word_null (l := []) hN (rw_nil piece) (by decide)
        refine ⟨fl, k1, l1, F, mn, pt, ?_, r1, rfl⟩
        rw [mk, h49, e1, b2s, m200b q98 q115]
        rfl
  by_cases q115 : ch = 115
  · obtain ⟨P, hP, hC, hR⟩ := string_join hN ha h z fl
    refine fin (cutL P pr) 0 0 (by have := cutL_len P pr; omega) (by omega) (by omega) ?_ ?_
    · intro paper plen D dd cc ss be we hr hD
      obtain ⟨k1, l1, d1, c1, s1, b1, e1, r1⟩ := hC paper plen D dd cc ss be hr (by omega)
      obtain ⟨l2, e2, r2⟩ := shorten_ok r1 (by omega) p1 p2
      refine ⟨k1, l2, d1, c1, s1, -1, b1, we, ?_, r2, Or.inl ⟨rfl, rfl⟩⟩
      unfold f_Composer_compose_A
      rw [row_size hr, b1s, hch, b1s, if_neg q98, if_pos q115, e1, b6s, e2, b1s]
    · intro piece F mn pt
      obtain ⟨fl2, k1, l1, F1, m1, pt1, e1, r1, hf⟩ := hR piece 0 F mn pt (rw_nil piece)
      obtain ⟨l2, e2, r2⟩ := m212 (N := N) (w := w) r1 p1 p2 (by omega) conv fl2 0 0 F1 m1 pt1
      refine ⟨fl2, k1, l2, F1, m1, pt1, ?_, r2, hf⟩
      rw [mk]
      unfold f_Mo_make_49
      rw [if_neg n37, if_neg n110, if_neg q98, if_neg z, if_pos rfl, if_pos q115, e1, b6s, m200a (Or.inr q115), e2]
      rfl
  by_cases q99 : ch = 99
  · have hv2 : 0 ≤ v.toInt ∧ v.toInt ≤ 255 := by
      rcases hsu with h | h | h | h | h | h
      · exact absurd h z
      · exact absurd h q98
      · exact absurd h q115
      · exact h.2
      · rcases h.1 with h | h | h <;> (rw [q99] at h; exact absurd h (by decide))
      · rcases h.1 with h | h | h <;> (rw [q99] at h; exact absurd h (by decide))
    obtain ⟨c1, c2, c3⟩ := code_c hv2.1 hv2.2
    refine fin [zI v.toInt] 0 0 (by simp) (by omega) (by simp) ?_ ?_
    · intro paper plen D dd cc ss be we hr hD
      obtain ⟨k1, l1, e1, r1⟩ := row_add (by decide) hr c3 (by omega)
      refine ⟨k1, l1, dd, cc, ss, -1, be, we, ?_, r1, Or.inl ⟨rfl, rfl⟩⟩
      unfold f_Composer_compose_A
      rw [row_size hr, b1s, hch, b1s, if_neg q98, if_neg q115, if_neg z, if_pos q99, c2, e1, b2s]
    · intro piece F mn pt
      obtain ⟨k1, l1, e1, r1⟩ := row_put (n := 20200) (l := []) (by decide) (rw_nil piece) c3 (by decide)
      refine ⟨fl, k1, l1, F, mn, pt, ?_, r1, rfl⟩
      rw [mk]
      unfold f_Mo_make_49
      rw [if_neg n37, if_neg n110, if_neg q98, if_neg z, if_pos rfl, if_neg q115, if_pos q99, if_neg (aok ha), anat ha, hv, c1, e1, b2s, m200b q98 q115]
      rfl
  have m49 : ∀ (piece F : Nat → Int32) (mn pt : Int32), f_Mo_make_49 N 9 kinds 9 sizes 9 values 576 texts (zI w) (zI pr) conv (zI (a : Int)) 20200 64 fl piece 0 0 0 F mn pt ch (if kind = 0 then 1 else 0) = mm_b7 (f_Mo_numeric N 9 sizes 9 values fl (zI pr) (zI (a : Int)) 20200 piece 0 0 64 F mn pt ch) (fun o_6 o_7 o_8 o_9 o_10 o_11 o_12 => f_Mo_make_200 N (zI w) (zI pr) conv 20200 fl o_6 o_7 o_8 o_9 o_10 o_11 o_12 ch) := by
    intro piece F mn pt
    unfold f_Mo_make_49
    rw [if_neg n37, if_neg n110, if_neg q98, if_neg z, if_pos rfl, if_neg q115, if_neg q99]
  by_cases qb : ch = 111 ∨ ch = 120
  · have hk3 : kind = 3 := by
      rcases hsu with h | h | h | h | h | h
      · exact absurd h z
      · exact absurd h q98
      · exact absurd h q115
      · exact absurd h.1 q99
      · exact h.2
      · exfalso
        rcases qb with q | q <;> (rw [q] at h; rcases h.1 with h | h | h <;> exact absurd h (by decide))
    obtain ⟨s1, s2⟩ := h.2.2.2.2.2.1 hk3
    obtain ⟨U, hU, hUv⟩ := zJ_un (if (64 : Int32) ≤ sz then v else v &&& ((mm_ll (1 : Int64) sz) - (1 : Int64)))
    have hUr : (if sizes a = (64 : Int32) then v else v &&& ((mm_ll (1 : Int64) (sizes a)) - (1 : Int64))) = zJ (U : Int) := by
      rw [← hUv, s1]
      simp only [bits64 s2]
    have hb : ∃ b s : Nat, b = 2 ^ s ∧ (s = 3 ∧ ch = 111 ∨ s = 4 ∧ ch = 120) := by
      rcases qb with q | q
      · exact ⟨8, 3, rfl, Or.inl ⟨rfl, q⟩⟩
      · exact ⟨16, 4, rfl, Or.inr ⟨rfl, q⟩⟩
    obtain ⟨b, s, hbs, hsc⟩ := hb
    obtain ⟨n, hn, hn23⟩ := bits_n hU hbs (by rcases hsc with h | h; exact Or.inl h.1; exact Or.inr h.1)
    have hbl := baseP_len fl ch
    have hPl : (baseP fl ch ++ bitP b U n).length ≤ 100 := by
      unfold bitP
      rw [List.length_append, fracL_len]; omega
    refine fin (baseP fl ch ++ bitP b U n) ((baseP fl ch).length : Int) (if fl &&& 8 = 0 then 0 else 1) (by omega) (by omega) (by rw [List.length_append]; omega) ?_ ?_
    · intro paper plen D dd cc ss be we hr hD
      obtain ⟨k1, l1, d1, c1, e1, r1⟩ := bits_class hN hU hbs hch hsc hn hUv fl hr (by omega) dd cc ss (-1) be
      refine ⟨k1, l1, d1, c1, 0, _, 0, we, ?_, r1, Or.inr ⟨rfl, rfl⟩⟩
      unfold f_Composer_compose_A f_Composer_compose_A_158
      rw [row_size hr, b1s, hch, b1s, if_neg q98, if_neg q115, if_neg z, if_neg q99, e1, b7s]
      rcases qb with q | q
      · rw [if_pos q]
      · rw [if_pos q]
        split <;> rfl
    · intro piece F mn pt
      obtain ⟨k1, l1, F1, m1, pt1, e1, r1⟩ := bits_ref hN ha hU hbs hsc hn hn23 hv hUr fl (zI pr) (rw_nil piece) 0 F mn pt
      refine ⟨fl, k1, l1, F1, m1, pt1, ?_, r1, rfl⟩
      rw [mk, m49, e1, b7s, m200b q98 q115]
  · have q111 : ch ≠ 111 := fun h => qb (Or.inl h)
    have q120 : ch ≠ 120 := fun h => qb (Or.inr h)
    obtain ⟨n, hn⟩ := dec_n v
    have hA5 := h.2.2.2.2.2.2.1
    have hs : ∃ s : Int, 0 ≤ s ∧ s ≤ 40 ∧ f_Argument_scale kind sz = some (zI s) ∧ (ch = 100 → s = 0) ∧ (ch ≠ 100 → sizes a = zI s) := by
      unfold f_Argument_scale
      rcases hsu with h | h | h | h | h | h
      · exact absurd h z
      · exact absurd h q98
      · exact absurd h q115
      · exact absurd h.1 q99
      · have hc : ch = 100 := by
          rcases h.1 with h | h | h
          · exact h
          · exact absurd h q111
          · exact absurd h q120
        refine ⟨0, by omega, by omega, ?_, fun _ => rfl, fun hh => absurd hc hh⟩
        rw [if_neg (by omega)]; rfl
      · obtain ⟨b1, s, b2, b3, b4⟩ := hA5 h.2
        refine ⟨s, b3, b4, ?_, fun hh => ?_, fun _ => ?_⟩
        · rw [if_pos h.2, b2]
        · exfalso
          rw [hh] at h
          rcases h.1 with h | h | h <;> exact absurd h (by decide)
        · rw [b1, b2]
    clear hA5
    obtain ⟨s, s1, s2, s3, s4, s5⟩ := hs
    have hpe2 : 0 ≤ (if pr = -1 then 6 else pr) ∧ (if pr = -1 then 6 else pr) ≤ 9999 := by split <;> omega
    have hL := sgnP_len hn s1 s2 hpe2.1 hpe2.2 ch fl
    have hpl := preP_len fl v.toInt
    have hsl : (sufP fl v.toInt).length ≤ 1 := by
      unfold sufP
      repeat' split
      all_goals simp
    have hPl : (preP fl v.toInt ++ (sgnP ch (dg 10 v.toInt.natAbs) n s (if pr = -1 then 6 else pr) fl ++ sufP fl v.toInt)).length ≤ 20200 := by
      rw [List.length_append, List.length_append]; omega
    refine fin _ ((preP fl v.toInt).length : Int) (if fl &&& 8 = 0 then 0 else 1) hPl (by omega) (by rw [List.length_append]; omega) ?_ ?_
    · intro paper plen D dd cc ss be we hr hD
      obtain ⟨k1, l1, d1, c1, b1, y1, e1, r1⟩ := signed_class hN hn s1 s2 p1 p2 rfl hch s4 s3 fl hr (by omega) dd cc ss (-1) be we
      refine ⟨k1, l1, d1, c1, zI s, zI ((D.length : Int) + ((preP fl v.toInt).length : Int)), b1, y1, ?_, r1, Or.inr ⟨rfl, rfl⟩⟩
      unfold f_Composer_compose_A
      rw [row_size hr, b1s, hch, b1s, if_neg q98, if_neg q115, if_neg z, if_neg q99, if_neg q111, if_neg q120, e1, b8s]
    · intro piece F mn pt
      obtain ⟨k1, l1, F1, m1, pt1, e1, r1⟩ := signed_ref hN ha hv hn s1 s2 p1 p2 rfl s4 s5 q111 q120 fl (rw_nil piece) 0 F mn pt
      refine ⟨fl, k1, l1, F1, m1, pt1, ?_, r1, rfl⟩
      rw [mk, m49, e1, b7s, m200b q98 q115]
theorem compose_bare (hN : 1000000 < N) {kinds sizes texts : Nat → Int32} {values : Nat → Int64} {conv ch : Int32} (hch : f_Directive_smallConversion conv = some ch) (hch2 : f_Mo_small conv = some ch) (hcv : ch = 37 ∨ ch = 110) (fl : Int32) {w : Int} (w1 : -1 ≤ w) (w2 : w ≤ 9999) (pr arg : Int32) :
    ∃ Q : List Int32, Q.length ≤ 20200 ∧
      (∀ (paper : Nat → Int32) (plen : Int32) (D : List Int32), rwL 4096 paper plen D → D.length ≤ 4096 → ∃ (k' : Nat → Int32) (l' t' z' : Int32), f_Composer_compose N 4096 paper plen fl (zI w) conv = some (k', l', t', z') ∧ rwL 4096 k' l' (D ++ Q)) ∧
      (∀ (piece : Nat → Int32) (F : Nat → Int32) (mn pt : Int32), ∃ (fl' : Int32) (k' : Nat → Int32) (l' fr' pd' : Int32) (F' : Nat → Int32) (m' pt' : Int32), f_Mo_make N 9 kinds 9 sizes 9 values 576 texts fl (zI w) pr conv arg 20200 piece 64 F mn pt = some (fl', k', l', fr', pd', F', m', pt') ∧ rwL 20200 k' l' Q) := by
  have hc : ∀ c : Int32, ck c → ∃ Q : List Int32, Q.length ≤ 20200 ∧
      (∀ (paper : Nat → Int32) (plen : Int32) (D : List Int32), rwL 4096 paper plen D → D.length ≤ 4096 → ∃ (k' : Nat → Int32) (l' t' z' : Int32), f_Composer_compose_42 N 4096 fl (zI w) conv paper plen (zI (D.length : Int)) (-1) c = some (k', l', t', z') ∧ rwL 4096 k' l' (D ++ Q)) ∧
      (∀ (piece : Nat → Int32) (F : Nat → Int32) (mn pt : Int32), ∃ (fl' : Int32) (k' : Nat → Int32) (l' fr' pd' : Int32) (F' : Nat → Int32) (m' pt' : Int32), mm_b2 (f_Mo_put 20200 piece 0 c) (fun o_2 o_3 => f_Mo_make_238 N (zI w) conv 20200 fl o_2 o_3 0 0 F mn pt) = some (fl', k', l', fr', pd', F', m', pt') ∧ rwL 20200 k' l' Q) := by
    intro c hck
    refine ⟨finL fl w conv [c] 0 0, ?_, ?_, ?_⟩
    · rw [finL_len, List.length_singleton]; omega
    · intro paper plen D hr hD
      obtain ⟨k1, l1, e1, r1⟩ := row_add (by decide) hr hck (by omega)
      obtain ⟨k2, l2, -, e2, r2⟩ := fin_class (za := -1) (pd := 0) (fl := fl) (fr := 0) hN r1 (by omega) (by simp) w1 w2 (by omega) (by simp) (Or.inl ⟨rfl, rfl⟩) conv (fun _ => 0) 0 0 0 0
      unfold f_Composer_compose_42
      rw [e1, b2s, e2]
      exact ⟨k2, l2, _, _, rfl, r2⟩
    · intro piece F mn pt
      obtain ⟨k1, l1, e1, r1⟩ := row_put (n := 20200) (l := []) (by decide) (rw_nil piece) hck (by decide)
      obtain ⟨k2, l2, e2, r2⟩ := fin_ref (pd := 0) (fl := fl) (fl2 := fl) (fr := 0) hN r1 (by simp) rfl w1 w2 (by omega) (by simp) conv F mn pt
      rw [show zI 0 = (0 : Int32) from rfl] at e2
      rw [e1, b2s, e2]
      exact ⟨_, k2, l2, _, _, _, _, _, rfl, r2⟩
  rcases hcv with q | q
  · obtain ⟨Q, h1, h2, h3⟩ := hc 37 (ck_z (z := 37) (by omega) (by omega))
    refine ⟨Q, h1, ?_, ?_⟩
    · intro paper plen D hr hD
      unfold f_Composer_compose
      rw [row_size hr, b1s, hch, b1s, if_neg (by rw [q]; decide)]
      exact h2 paper plen D hr hD
    · intro piece F mn pt
      unfold f_Mo_make f_Mo_make_48 f_Mo_make_49 f_Mo_make_62 f_Mo_make_76 f_Mo_make_200
      rw [hch2, b1s]
      subst q
      simp only [↓reduceIte, show ¬ ((37 : Int32) = 98) from by decide, show ¬ ((37 : Int32) = 115) from by decide]
      exact h3 piece F mn pt
  · obtain ⟨Q, h1, h2, h3⟩ := hc 10 (ck_z (z := 10) (by omega) (by omega))
    refine ⟨Q, h1, ?_, ?_⟩
    · intro paper plen D hr hD
      unfold f_Composer_compose
      rw [row_size hr, b1s, hch, b1s, if_pos q]
      exact h2 paper plen D hr hD
    · intro piece F mn pt
      unfold f_Mo_make f_Mo_make_48 f_Mo_make_49 f_Mo_make_62 f_Mo_make_76 f_Mo_make_200
      rw [hch2, b1s]
      subst q
      simp only [↓reduceIte, show ¬ ((110 : Int32) = 37) from by decide, show ¬ ((110 : Int32) = 98) from by decide, show ¬ ((110 : Int32) = 115) from by decide]
      exact h3 piece F mn pt
end PUcompose
