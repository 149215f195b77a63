section PUstring
variable {N : Nat}
def argOK (kind : Nat) (v : Int64) (sz : Int32) (tk : Nat → Int32) (tlen : Int32) (rk : Int32) (rv : Int64) (rs : Int32) (texts : Nat → Int32) (a : Nat) : Prop :=
  rk = zI (kind : Int) ∧ rv = v ∧ kind ≤ 5 ∧ (kind = 1 → v = 0 ∨ v = 1) ∧ (kind = 2 → 0 ≤ v.toInt ∧ v.toInt ≤ 255) ∧ (kind = 3 → rs = sz ∧ (sz = 8 ∨ sz = 16 ∨ sz = 32 ∨ sz = 64)) ∧ (kind = 5 → rs = sz ∧ ∃ s : Int, sz = zI s ∧ 0 ≤ s ∧ s ≤ 40) ∧ (kind = 4 → ∃ tl : List Int32, rwL 64 tk tlen tl ∧ tl.length ≤ 64 ∧ rs = zI (tl.length : Int) ∧ ∀ (j : Nat) (c : Int32), tl[j]? = some c → texts (64 * a + j) = c)
theorem and19 (fl : Int32) : (fl &&& (-19 : Int32)) &&& 16 = 0 ∧ (fl &&& (-19 : Int32)) &&& 2 = 0 ∧ (fl &&& (-19 : Int32)) &&& 1 = fl &&& 1 := by
  refine ⟨?_, ?_, ?_⟩
  · rw [Int32.and_assoc, show (-19 : Int32) &&& 16 = 0 from by decide, Int32.and_zero]
  · rw [Int32.and_assoc, show (-19 : Int32) &&& 2 = 0 from by decide, Int32.and_zero]
  · rw [Int32.and_assoc, show (-19 : Int32) &&& 1 = 1 from by decide]
theorem fixP_fl (E : Nat → Nat) (n : Nat) (s be : Int) {f g : Int32} (h1 : f &&& 16 = g &&& 16) (h2 : f &&& 2 = g &&& 2) : fixP E n s be f = fixP E n s be g := by
  unfold fixP
  rw [intL_congr E s (show (f &&& 16 ≠ 0) = (g &&& 16 ≠ 0) by rw [h1]), bhL_congr E (-1 + s) be.toNat (show (f &&& 2 ≠ 0) = (g &&& 2 ≠ 0) by rw [h2])]
noncomputable def plnP (v : Int) (n : Nat) (s : Int) : List Int32 := (if v < 0 then [45] else []) ++ fixP (dg 10 v.natAbs) n s s 0
theorem plnP_len {v : Int} {n : Nat} {s : Int} (hn : n ≤ 20) (s1 : 0 ≤ s) (s2 : s ≤ 40) : (plnP v n s).length ≤ 100 := by
  unfold plnP
  rw [List.length_append]
  have := fixP_len (dg 10 v.natAbs) (be := s) 0 (show n ≤ 23 by omega) s1
  split
  · rw [List.length_singleton]; omega
  · rw [List.length_nil]; omega
theorem plain_124 (hN : 1000000 < N) {v : Int64} {n : Nat} (hn : isN (dg 10 v.toInt.natAbs) n) {s : Int} (s1 : 0 ≤ s) (s2 : s ≤ 40) {kind : Nat} {size : Int32} (hsc : f_Argument_scale kind size = some (zI s)) {paper : Nat → Int32} {plen : Int32} {l : List Int32} (h3 : rwL 4096 paper plen l) (h4 : l.length < 20000) (dd : Nat → Int32) (cc ss be : Int32) :
    ∃ (k' : Nat → Int32) (l' : Int32) (d' : Nat → Int32) (c' : Int32), f_Composer_addPlain_124 N 4096 24 kind v size paper plen dd cc ss be = some (k', l', d', c', zI s, zI s) ∧ rwL 4096 k' l' (l ++ fixP (dg 10 v.toInt.natAbs) n s s 0) := by
  obtain ⟨d0, n0, e0, c0⟩ := takeDec hN dd cc ss v (zI s)
  have hnn := isN_uniq (CF_isN c0) hn
  subst hnn
  obtain ⟨k', l', e1, r1⟩ := fixP_class (s := s) (be := s) hN c0 s1 (by omega) s1 (by omega) 0 h3 (by omega)
  rw [show (if (0 : Int32) &&& 16 = 0 then (0 : Int32) else 1) = 0 from by decide, show (if (0 : Int32) &&& 2 = 0 then (0 : Int32) else 1) = 0 from by decide] at e1
  unfold f_Composer_addPlain_124
  rw [hsc, b1s, e0, b3s, b1s, e1, b2s]
  exact ⟨k', l', d0, _, rfl, r1⟩
theorem string_89 {sizes texts : Nat → Int32} {a : Nat} (ha : a < 9) {tl : List Int32} (hl : tl.length ≤ 64) (hs : sizes a = zI (tl.length : Int)) (ht : ∀ (j : Nat) (c : Int32), tl[j]? = some c → texts (64 * a + j) = c) (hck : ∀ (j : Nat) (c : Int32), tl[j]? = some c → ck c) (fl : Int32) (F : Nat → Int32) (mn pt : Int32) : ∀ (k fuel i : Nat) (piece : Nat → Int32) (size : Int32) (l : List Int32), i + k = tl.length → k < fuel → rwL 20200 piece size l → l.length + k ≤ 20000 → ∃ (k' : Nat → Int32) (l' : Int32), f_Mo_string_89 9 sizes 576 texts (zI (a : Int)) 20200 fuel fl piece size F mn pt (zI (i : Int)) = some (fl, k', l', F, mn, pt) ∧ rwL 20200 k' l' (l ++ tl.drop i) := by
  intro k
  induction k with
  | zero =>
    intro fuel i piece size l h1 h2 h3 h4
    obtain ⟨fu, rfl, -⟩ := fuelS h2
    rw [f_Mo_string_89, if_neg (aok ha), anat ha, hs, if_pos (by rw [zI_le (by omega) (by omega) (by omega) (by omega)]; omega), List.drop_eq_nil_of_le (by omega), List.append_nil]
    exact ⟨_, _, rfl, h3⟩
  | succ k ih =>
    intro fuel i piece size l h1 h2 h3 h4
    obtain ⟨fu, rfl, hfu⟩ := fuelS h2
    have hi : i < tl.length := by omega
    have hg := List.getElem?_eq_getElem hi
    have e0 : (64 : Int32) * zI (a : Int) + zI (i : Int) = zI (64 * (a : Int) + (i : Int)) := by rw [zI_lit, zI_mul, zI_add]
    obtain ⟨k1, l1, e1, r1⟩ := row_put (by decide) h3 (hck i _ hg) (by omega)
    obtain ⟨k2, l2, e2, r2⟩ := ih fu (i + 1) k1 l1 _ (by omega) (by omega) r1 (by rw [List.length_append, List.length_singleton]; omega)
    rw [f_Mo_string_89, if_neg (aok ha), anat ha, hs, if_neg (by rw [zI_le (by omega) (by omega) (by omega) (by omega)]; omega), e0, zI_nat (by omega) (by omega), if_neg (by rw [zI_lit, zI_lt (by omega) (by omega) (by omega) (by omega)]; omega), show (64 * (a : Int) + (i : Int)).toNat = 64 * a + i by omega, ht i _ hg, e1, b2s, show zI (i : Int) + 1 = zI ((i : Int) + 1) from zI_add _ 1, cast1 i, e2]
    refine ⟨k2, l2, rfl, ?_⟩
    rw [List.drop_eq_getElem_cons hi]
    rw [List.append_assoc] at r2
    exact r2
theorem lgz (v w : Int64) : (lg_cmp v w = 0) = (v = w) := propext (lg_cmp_eq v w)
theorem zkne {k j : Nat} (hk : k ≤ 5) (hj : j ≤ 5) : (zI (k : Int) = zI (j : Int)) = (k = j) := by
  rw [zI_eq (by omega) (by omega) (by omega) (by omega)]
  apply propext
  omega
theorem code_c {v : Int64} (h1 : 0 ≤ v.toInt) (h2 : v.toInt ≤ 255) : v.toInt32 = zI v.toInt ∧ mm_c v.toInt32 = zI v.toInt ∧ ck (zI v.toInt) := by
  obtain ⟨z, rfl, z1, z2⟩ := zJ_of v
  rw [zJ_toInt z1 z2] at *
  rw [zJ_I (by omega) (by omega), zI_c (by omega) (by omega)]
  exact ⟨rfl, rfl, ck_z (by omega) (by omega)⟩
theorem string_149 (hN : 1000000 < N) {kinds sizes : Nat → Int32} {values : Nat → Int64} {a : Nat} (ha : a < 9) {v : Int64} (hv : values a = v) {n : Nat} (hn : isN (dg 10 v.toInt.natAbs) n) {s : Int} (s1 : 0 ≤ s) (s2 : s ≤ 40) (hk : (kinds a = 5 ∧ sizes a = zI s) ∨ (kinds a ≠ 5 ∧ s = 0)) (fl : Int32) {piece : Nat → Int32} {size : Int32} {l : List Int32} (h3 : rwL 20200 piece size l) (h4 : l.length ≤ 4000) (F : Nat → Int32) (mn pt : Int32) :
    ∃ (k' : Nat → Int32) (l' : Int32) (F' : Nat → Int32) (m' pt' : Int32), f_Mo_string_149 N 9 kinds 9 sizes 9 values (zI (a : Int)) 20200 64 fl piece size F mn pt = some (fl &&& -19, k', l', F', m', pt') ∧ rwL 20200 k' l' (l ++ fixP (dg 10 v.toInt.natAbs) n s s 0) := by
  obtain ⟨F', m, e1, r1, m1, m2, m3⟩ := spread_ok (b := 10) hN (Or.inr (Or.inl rfl)) (natAbs_lt v) F pt
  have hm := RF_m hn r1 m1 m3
  have h19 := and19 fl
  obtain ⟨k', l', e2, r2⟩ := fixP_ref (n := n) (s := s) (be := s) hN r1 (dg10 _) (fl &&& -19) s1 s2 s1 (by omega) (by omega) h3 h4
  rw [fixP_fl (dg 10 v.toInt.natAbs) n s s (f := fl &&& -19) (g := 0) (by rw [h19.1]; decide) (by rw [h19.2.1]; decide)] at r2
  rw [show (m : Int) - 1 + 1 - s = (m : Int) - s by omega] at e2
  unfold f_Mo_string_149 f_Mo_string_202
  rw [if_neg (aok ha), anat ha, hv, size64_ok, b1s, show (10 : Int32) = zI ((10 : Nat) : Int) from rfl, e1, b3s, if_neg (aok2 ha), if_neg (aok2 ha)]
  rcases hk with ⟨hk, hs⟩ | ⟨hk, hs⟩
  · rw [if_pos hk, hs, zI_sub, zI_sub, show (m : Int) - ((m : Int) - s) = s by omega, e2, b2s]
    exact ⟨k', l', _, _, _, rfl, r2⟩
  · subst hs
    rw [show (m : Int) - 0 = (m : Int) by omega] at e2
    rw [if_neg hk, zI_sub, show (m : Int) - (m : Int) = 0 by omega, e2, b2s]
    exact ⟨k', l', _, _, _, rfl, r2⟩
theorem string_join (hN : 1000000 < N) {kind : Nat} {v : Int64} {sz : Int32} {tk : Nat → Int32} {tlen : Int32} {kinds sizes texts : Nat → Int32} {values : Nat → Int64} {a : Nat} (ha : a < 9) (h : argOK kind v sz tk tlen (kinds a) (values a) (sizes a) texts a) (h0 : kind ≠ 0) (fl : Int32) :
    ∃ P : List Int32, P.length ≤ 200 ∧
      (∀ (paper : Nat → Int32) (plen : Int32) (l : List Int32) (dd : Nat → Int32) (cc ss be : Int32), rwL 4096 paper plen l → l.length < 10000 → ∃ (k' : Nat → Int32) (l' : Int32) (d' : Nat → Int32) (c' s' b' : Int32), f_Composer_addPlain N 4096 paper plen 24 dd cc ss be kind v sz 64 tk tlen = some (k', l', d', c', s', b') ∧ rwL 4096 k' l' (l ++ P)) ∧
      (∀ (piece : Nat → Int32) (size : Int32) (F : Nat → Int32) (mn pt : Int32), rwL 20200 piece size [] → ∃ (fl' : Int32) (k' : Nat → Int32) (l' : Int32) (F' : Nat → Int32) (m' pt' : Int32), f_Mo_string N 9 kinds 9 sizes 9 values 576 texts fl (zI (a : Int)) 20200 piece size 64 F mn pt = some (fl', k', l', F', m', pt') ∧ rwL 20200 k' l' P ∧ fl' &&& 1 = fl &&& 1) := by
  obtain ⟨hk, hv, h5, a1, a2, a3, a5, a4⟩ := h
  have h19 := (and19 fl).2.2
  by_cases q1 : kind = 1
  · subst q1
    refine ⟨kW (if v = 0 then 3 else 4), ?_, ?_, ?_⟩
    · split
      · exact Nat.le_trans (Nat.le_of_lt (kW_len (by decide))) (by omega)
      · exact Nat.le_trans (Nat.le_of_lt (kW_len (by decide))) (by omega)
    · intro paper plen l dd cc ss be hr hl
      unfold f_Composer_addPlain f_Argument_isFalse
      rw [if_neg (by omega), if_pos rfl, if_neg (by omega), if_pos rfl]
      simp only [lgz]
      by_cases z : v = 0
      · rw [if_pos z, b1s, if_neg n10, if_pos z]
        obtain ⟨k', l', e, r⟩ := row_addWord (N := N) (k := 3) (by decide) (by decide) hr (by omega) hN
        rw [e, b2s]
        exact ⟨k', l', _, _, _, _, rfl, r⟩
      · rw [if_neg z, b1s, if_pos rfl, if_neg z]
        obtain ⟨k', l', e, r⟩ := row_addWord (N := N) (k := 4) (by decide) (by decide) hr (by omega) hN
        rw [e, b2s]
        exact ⟨k', l', _, _, _, _, rfl, r⟩
    · intro piece size F mn pt hr
      unfold f_Mo_string
      rw [if_neg (aok ha), anat ha, hk, hv, if_pos (show zI ((1 : Nat) : Int) = 1 by decide), if_neg (aok2 ha)]
      simp only [lgz]
      rcases a1 rfl with z | z
      · rw [if_neg (by rw [z]; decide), if_pos z]
        obtain ⟨k', l', e, r⟩ := word_false (l := []) hN hr (by decide)
        rw [e, b2s]
        exact ⟨_, k', l', _, _, _, rfl, r, rfl⟩
      · rw [if_pos z, if_neg (by rw [z]; decide)]
        obtain ⟨k', l', e, r⟩ := word_true (l := []) hN hr (by decide)
        rw [e, b2s]
        exact ⟨_, k', l', _, _, _, rfl, r, rfl⟩
  by_cases q2 : kind = 2
  · subst q2
    obtain ⟨v1, v2⟩ := a2 rfl
    obtain ⟨c1, c2, c3⟩ := code_c v1 v2
    refine ⟨[zI v.toInt], by simp, ?_, ?_⟩
    · intro paper plen l dd cc ss be hr hl
      unfold f_Composer_addPlain
      rw [if_neg (by omega), if_neg (by omega), if_pos rfl, c2]
      obtain ⟨k', l', e, r⟩ := row_add (by decide) hr c3 (by omega)
      rw [e, b2s]
      exact ⟨k', l', _, _, _, _, rfl, r⟩
    · intro piece size F mn pt hr
      unfold f_Mo_string
      rw [if_neg (aok ha), anat ha, hk, hv, if_neg (by decide), if_pos (show zI ((2 : Nat) : Int) = 2 by decide), if_neg (aok2 ha), c1]
      obtain ⟨k', l', e, r⟩ := row_put (l := []) (by decide) hr c3 (by decide)
      rw [e, b2s]
      exact ⟨_, k', l', _, _, _, rfl, r, rfl⟩
  by_cases q4 : kind = 4
  · subst q4
    obtain ⟨tl, t1, t2, t3, t4⟩ := a4 rfl
    refine ⟨tl, by omega, ?_, ?_⟩
    · intro paper plen l dd cc ss be hr hl
      unfold f_Composer_addPlain
      rw [if_neg (by omega), if_neg (by omega), if_neg (by omega), if_pos rfl]
      obtain ⟨k', l', e, r⟩ := row_addRow (N := N) (by decide) (by decide) hr t1 t2 (by omega) (by omega) hN
      rw [e, b2s]
      exact ⟨k', l', _, _, _, _, rfl, r⟩
    · intro piece size F mn pt hr
      unfold f_Mo_string
      rw [if_neg (aok ha), anat ha, hk, if_neg (by decide), if_neg (by decide), if_neg (by decide), if_pos (show zI ((4 : Nat) : Int) = 4 by decide)]
      obtain ⟨k', l', e, r⟩ := string_89 (sizes := sizes) (texts := texts) ha t2 t3 t4 (fun j c hj => (t1.2.2 j c hj).1) fl F mn pt tl.length N 0 piece size [] (by omega) (by omega) hr (by simp; omega)
      rw [show zI ((0 : Nat) : Int) = (0 : Int32) from rfl] at e
      rw [e]
      exact ⟨_, k', l', _, _, _, rfl, r, rfl⟩
  have h35 : kind = 3 ∨ kind = 5 := by
    clear a1 a2 a3 a4 a5
    omega
  obtain ⟨n, hn⟩ := dec_n v
  have hs : ∃ s : Int, 0 ≤ s ∧ s ≤ 40 ∧ f_Argument_scale kind sz = some (zI s) ∧ ((kinds a = 5 ∧ sizes a = zI s) ∨ (kinds a ≠ 5 ∧ s = 0)) := by
    unfold f_Argument_scale
    rcases h35 with q | q
    · refine ⟨0, by omega, by omega, ?_, Or.inr ⟨?_, rfl⟩⟩
      · rw [if_neg (by omega)]; rfl
      · rw [hk, q]; decide
    · obtain ⟨b1, s, b2, b3, b4⟩ := a5 q
      refine ⟨s, b3, b4, ?_, Or.inl ⟨?_, ?_⟩⟩
      · rw [if_pos q, b2]
      · rw [hk, q]; rfl
      · rw [b1, b2]
  obtain ⟨s, s1, s2, s3, s4⟩ := hs
  refine ⟨plnP v.toInt n s, ?_, ?_, ?_⟩
  · have := plnP_len (v := v.toInt) (isN_20 (natAbs_lt v) hn) s1 s2
    omega
  · intro paper plen l dd cc ss be hr hl
    unfold f_Composer_addPlain plnP
    rw [if_neg h0, if_neg q1, if_neg q2, if_neg q4]
    simp only [lg0]
    by_cases z : 0 ≤ v.toInt
    · rw [if_pos z, if_neg (show ¬ v.toInt < 0 by omega), List.nil_append]
      obtain ⟨k', l', d', c', e, r⟩ := plain_124 hN hn s1 s2 s3 hr (by omega) dd cc ss be
      exact ⟨k', l', d', c', _, _, e, r⟩
    · rw [if_neg z, if_pos (show v.toInt < 0 by omega)]
      obtain ⟨ka, la, ea, ra⟩ := row_add (c := 45) (by decide) hr (ck_z (z := 45) (by omega) (by omega)) (by omega)
      obtain ⟨k', l', d', c', e, r⟩ := plain_124 hN hn s1 s2 s3 ra (by rw [List.length_append, List.length_singleton]; omega) dd cc ss be
      rw [ea, b2s]
      rw [List.append_assoc] at r
      exact ⟨k', l', d', c', _, _, e, r⟩
  · intro piece size F mn pt hr
    unfold f_Mo_string plnP
    have k3 : (kinds a = 3 ∧ kinds a ≠ 1 ∧ kinds a ≠ 2) ∨ (kinds a ≠ 1 ∧ kinds a ≠ 2 ∧ kinds a ≠ 3 ∧ kinds a ≠ 4) := by
      rw [hk]
      rcases h35 with q | q
      · rw [q]; exact Or.inl (by decide)
      · rw [q]; exact Or.inr (by decide)
    have hbody : ∃ (fl' : Int32) (k' : Nat → Int32) (l' : Int32) (F' : Nat → Int32) (m' pt' : Int32), (if 0 ≤ (lg_cmp v (0 : Int64)) then f_Mo_string_149 N 9 kinds 9 sizes 9 values (zI (a : Int)) 20200 64 fl piece size F mn pt else mm_b2 (f_Mo_put 20200 piece size (45 : Int32)) (fun o_13 o_14 => f_Mo_string_149 N 9 kinds 9 sizes 9 values (zI (a : Int)) 20200 64 fl o_13 o_14 F mn pt)) = some (fl', k', l', F', m', pt') ∧ rwL 20200 k' l' ((if v.toInt < 0 then [45] else []) ++ fixP (dg 10 v.toInt.natAbs) n s s 0) ∧ fl' &&& 1 = fl &&& 1 := by
      simp only [lg0]
      by_cases z : 0 ≤ v.toInt
      · rw [if_pos z, if_neg (show ¬ v.toInt < 0 by omega)]
        obtain ⟨k', l', F', m', pt', e, r⟩ := string_149 hN ha hv hn s1 s2 s4 fl hr (by decide) F mn pt
        exact ⟨_, k', l', F', m', pt', e, r, h19⟩
      · rw [if_neg z, if_pos (show v.toInt < 0 by omega)]
        obtain ⟨ka, la, ea, ra⟩ := row_put (c := 45) (by decide) hr (ck_z (z := 45) (by omega) (by omega)) (by decide)
        obtain ⟨k', l', F', m', pt', e, r⟩ := string_149 hN ha hv hn s1 s2 s4 fl ra (by decide) F mn pt
        rw [ea, b2s]
        exact ⟨_, k', l', F', m', pt', e, r, h19⟩
    rw [if_neg (aok ha), anat ha, hv]
    rcases k3 with ⟨x1, x2, x3⟩ | ⟨x1, x2, x3, x4⟩
    · rw [if_neg x2, if_neg x3, if_pos x1, if_neg (aok2 ha)]
      exact hbody
    · rw [if_neg x1, if_neg x2, if_neg x3, if_neg x4, if_neg (aok2 ha)]
      exact hbody
end PUstring
