section PUsigned
theorem hz1 (a : Int32) : ((if a = 0 then (0 : Int32) else 1) = 0) = (a = 0) := by
  by_cases h : a = 0
  · rw [if_pos h]; exact propext ⟨fun _ => h, fun _ => rfl⟩
  · rw [if_neg h]; exact propext ⟨fun q => absurd q n10, fun q => absurd q h⟩
theorem hz1n (a : Int32) : ((if a = 0 then (0 : Int32) else 1) ≠ 0) = (a ≠ 0) := by
  show (¬ _) = (¬ _)
  rw [hz1]
theorem lg0 (v : Int64) : (0 ≤ lg_cmp v (0 : Int64)) = (0 ≤ v.toInt) := by
  obtain ⟨z, rfl, z1, z2⟩ := zJ_of v
  rw [zJ_toInt z1 z2]
  apply propext
  rw [lg_cmp_ge, zJ_lit, zJ_le (by omega) (by omega) (by omega) (by omega)]
def isN (E : Nat → Nat) (n : Nat) : Prop := (∀ j, n ≤ j → E j = 0) ∧ (n = 0 ∨ E (n - 1) ≠ 0)
theorem isN_uniq {E : Nat → Nat} {a b : Nat} (ha : isN E a) (hb : isN E b) : a = b := by
  have key : ∀ {a b : Nat}, isN E a → isN E b → a ≤ b := by
    intro a b ha hb
    rcases ha.2 with h | h
    · omega
    · by_cases q : a ≤ b
      · exact q
      · exact absurd (hb.1 (a - 1) (by omega)) h
  exact Nat.le_antisymm (key ha hb) (key hb ha)
theorem CF_isN {d : Nat → Int32} {c : Int32} {E : Nat → Nat} {n : Nat} (h : CF d c E n) : isN E n := ⟨h.2.2.2.1, h.2.2.2.2.2⟩
theorem isN_20 {M n : Nat} (hM : M < 18446744073709551616) (h : isN (dg 10 M) n) : n ≤ 20 := by
  rcases h.2 with h | h
  · omega
  · by_cases q : n ≤ 20
    · exact q
    · exact absurd (dg_0 (n := 20) (by omega) (Nat.lt_trans hM (by decide)) (by omega)) h
theorem RF_m {F : Nat → Int32} {mz : Int32} {E : Nat → Nat} {n m : Nat} (hn : isN E n) (hr : RF F mz E ((m : Int) - 1) m) (h1 : 1 ≤ m) (h2 : m = 1 ∨ E (m - 1) ≠ 0) : m = max n 1 := by
  obtain ⟨-, -, -, hz, -, -, -⟩ := hr
  obtain ⟨h0, hne⟩ := hn
  have a1 : n ≤ m := by
    rcases hne with h | h
    · omega
    · by_cases q : n ≤ m
      · exact q
      · exact absurd (hz (n - 1) (Or.inl (by omega))) h
  have a2 : m ≤ max n 1 := by
    rcases h2 with h | h
    · omega
    · by_cases q : m ≤ n
      · omega
      · exact absurd (h0 (m - 1) (by omega)) h
  omega
theorem natAbs_lt (v : Int64) : v.toInt.natAbs < 18446744073709551616 := by
  have h1 := Int64.le_toInt v
  have h2 := Int64.toInt_lt v
  omega
theorem dec_n (v : Int64) : ∃ n, isN (dg 10 v.toInt.natAbs) n := by
  obtain ⟨d', n, -, h⟩ := takeDec (N := 2000000) (by omega) (fun _ => 0) 0 0 v 0
  exact ⟨n, CF_isN h⟩
theorem dg10 (M j : Nat) : dg 10 M j < 10 := dgB_lt (by omega)
theorem intL_congr (E : Nat → Nat) (s : Int) {g h : Prop} [Decidable g] [Decidable h] (e : g = h) (t : Nat) : intL E s g t = intL E s h t := by
  subst e
  congr
theorem bhL_congr (E : Nat → Nat) (q : Int) (be : Nat) {g h : Prop} [Decidable g] [Decidable h] (e : g = h) : bhL E q be g = bhL E q be h := by
  subst e
  congr
noncomputable def fixP (E : Nat → Nat) (n : Nat) (s be : Int) (fl : Int32) : List Int32 := intL E s (fl &&& 16 ≠ 0) (max ((n : Int) - s) 1).toNat ++ bhL E (-1 + s) be.toNat (fl &&& 2 ≠ 0)
def xOf (n : Nat) (s : Int) : Int := if n = 0 then 0 else (n : Int) - 1 - s
noncomputable def expP (E : Nat → Nat) (n : Nat) (s be : Int) (fl : Int32) : List Int32 := kByt 6 (eZ E (xOf n s + s)) :: (bhL E (xOf n s - 1 + s) be.toNat (fl &&& 2 ≠ 0) ++ expL (xOf n s))
noncomputable def genP (E : Nat → Nat) (n : Nat) (s q : Int) (fl : Int32) : List Int32 := if xOf n s < -4 ∨ q ≤ xOf n s then expP E n s (q - 1) fl else fixP E n s (q - 1 - xOf n s) fl
noncomputable def sgnP (ch : Int32) (E : Nat → Nat) (n : Nat) (s pe : Int) (fl : Int32) : List Int32 := if ch = 100 then fixP E n s 0 fl else if ch = 101 then expP (rndE E n ((n : Int) - 1 - pe)) (rndN E n ((n : Int) - 1 - pe)) s pe fl else if ch = 102 then fixP (rndE E n (s - pe)) (rndN E n (s - pe)) s pe fl else genP (rndE E n ((n : Int) - max pe 1)) (rndN E n ((n : Int) - max pe 1)) s (max pe 1) fl
theorem bhL_len (E : Nat → Nat) (q : Int) (be : Nat) (pt : Prop) [Decidable pt] : (bhL E q be pt).length ≤ be + 1 := by
  unfold bhL
  rw [List.length_append, fracL_len]
  split
  · rw [List.length_singleton]; omega
  · rw [List.length_nil]; omega
theorem fixP_len (E : Nat → Nat) {n : Nat} {s be : Int} (fl : Int32) (hn : n ≤ 23) (s1 : 0 ≤ s) : (fixP E n s be fl).length ≤ be.toNat + 47 := by
  unfold fixP
  rw [List.length_append]
  have h1 := intL_len E s (fl &&& 16 ≠ 0) (max ((n : Int) - s) 1).toNat
  have h2 := bhL_len E (-1 + s) be.toNat (fl &&& 2 ≠ 0)
  omega
theorem expP_len (E : Nat → Nat) {n : Nat} {s be : Int} (fl : Int32) : (expP E n s be fl).length ≤ be.toNat + 6 := by
  unfold expP
  rw [List.length_cons, List.length_append]
  have h2 := bhL_len E (xOf n s - 1 + s) be.toNat (fl &&& 2 ≠ 0)
  have h3 : (expL (xOf n s)).length = 4 := rfl
  omega
theorem rndN_23 {E : Nat → Nat} {n : Nat} (h : isN E n) (h10 : ∀ j, E j < 10) (hn : n ≤ 20) {d : Nat → Int32} {c : Int32} (hc : CF d c E n) {D : Int} (D1 : -90000 ≤ D) (D2 : D ≤ 90000) : rndN E n D ≤ 23 := by
  obtain ⟨d', -, h2, -⟩ := rnd_class (N := 2000000) (p := D) (s := 0) (by omega) hc h10 (by omega) (by omega) (by omega) (by omega) (by omega)
  rw [show D + 0 = D by omega] at h2
  exact h2.2.1
variable {N : Nat} {E : Nat → Nat} {n : Nat} {d : Nat → Int32} {c : Int32}
theorem fixP_class (hN : 1000000 < N) {paper : Nat → Int32} {plen : Int32} {l : List Int32} (hc : CF d c E n) {s be : Int} (s1 : 0 ≤ s) (s2 : s ≤ 100) (b1 : 0 ≤ be) (b2 : be ≤ 20000) (fl : Int32) (h3 : rwL 4096 paper plen l) (h4 : l.length < 50000) : ∃ k' l', f_Composer_addFixed N 4096 paper plen 24 d c (zI s) (zI be) (if fl &&& 16 = 0 then 0 else 1) (if fl &&& 2 = 0 then 0 else 1) = some (k', l') ∧ rwL 4096 k' l' (l ++ fixP E n s be fl) := by
  obtain ⟨k', l', e, r⟩ := fixed_ok (s := s) hN hc (by omega) s2 b1 b2 (if fl &&& 16 = 0 then 0 else 1) (if fl &&& 2 = 0 then 0 else 1) h3 h4
  refine ⟨k', l', e, ?_⟩
  unfold fixP
  rw [intL_congr E s (hz1n (fl &&& 16)), bhL_congr E (-1 + s) be.toNat (hz1n (fl &&& 2))] at r
  exact r
theorem expP_class (hN : 1000000 < N) {paper : Nat → Int32} {plen : Int32} {l : List Int32} (hc : CF d c E n) {s be : Int} (s1 : 0 ≤ s) (s2 : s ≤ 100) (b1 : 0 ≤ be) (b2 : be ≤ 20000) (fl : Int32) (h3 : rwL 4096 paper plen l) (h4 : l.length < 50000) : ∃ k' l', f_Composer_addWithExponent N 4096 paper plen 24 d c (zI s) (zI be) (if fl &&& 2 = 0 then 0 else 1) = some (k', l') ∧ rwL 4096 k' l' (l ++ expP E n s be fl) := by
  obtain ⟨k', l', e, r⟩ := exp_ok (s := s) (x := xOf n s) hN hc (by omega) s2 b1 b2 (if fl &&& 2 = 0 then 0 else 1) h3 h4 rfl
  refine ⟨k', l', e, ?_⟩
  unfold expP
  rw [bhL_congr E (xOf n s - 1 + s) be.toNat (hz1n (fl &&& 2))] at r
  exact r
theorem roundFor_ok (hN : 1000000 < N) (hc : CF d c E n) (h10 : ∀ j, E j < 10) (hn : n ≤ 20) {s pr pe : Int} (s1 : 0 ≤ s) (s2 : s ≤ 40) (p1 : -1 ≤ pr) (p2 : pr ≤ 9999) (hpe : pe = if pr = -1 then 6 else pr) {conv ch : Int32} (hch : f_Directive_smallConversion conv = some ch) (hs : ch = 100 → s = 0) (be : Int32) :
    ∃ (d' : Nat → Int32) (c' : Int32) (E' : Nat → Nat) (n' : Nat) (b' : Int) (w : Int32), f_Composer_roundFor N 24 d c (zI s) be (zI pr) conv = some (d', c', zI b', w) ∧ CF d' c' E' n' ∧ 0 ≤ b' ∧ b' ≤ 11000 ∧ (w = 0 → ∀ fl, sgnP ch E n s pe fl = fixP E' n' s b' fl) ∧ (w ≠ 0 → ∀ fl, sgnP ch E n s pe fl = expP E' n' s b' fl) := by
  have hpe2 : 0 ≤ pe ∧ pe ≤ 9999 := by rw [hpe]; split <;> omega
  have hpo : f_Directive_precisionOr (zI pr) 6 = some (zI pe) := by
    unfold f_Directive_precisionOr
    rw [hpe, show (-1 : Int32) = zI (-1) from rfl]
    by_cases q : pr = -1
    · rw [if_pos (by rw [zI_eq (by omega) (by omega) (by omega) (by omega)]; exact q), if_pos q]; rfl
    · rw [if_neg (by rw [zI_eq (by omega) (by omega) (by omega) (by omega)]; exact q), if_neg q]
  have hcz := hc.1
  have htop : f_Figures_top c (zI s) = some (zI ((n : Int) - 1 - s)) := by
    unfold f_Figures_top
    rw [hcz, zI_lit, zI_sub, zI_sub]
  unfold f_Composer_roundFor
  rw [hpo, b1s, hch, b1s, htop]
  unfold sgnP
  by_cases q1 : ch = 100
  · rw [if_pos q1]
    refine ⟨d, c, E, n, 0, 0, rfl, hc, by omega, by omega, fun _ fl => ?_, fun h => absurd rfl h⟩
    rw [if_pos q1]
  rw [if_neg q1]
  by_cases q2 : ch = 101
  · obtain ⟨d', e1, h1, h2⟩ := rnd_class (p := (n : Int) - 1 - s - pe) (s := s) hN hc h10 (by omega) (by omega) (by omega) (by omega) (by omega)
    rw [show (n : Int) - 1 - s - pe + s = (n : Int) - 1 - pe by omega] at e1 h1
    rw [if_pos q2, b1s, zI_sub, e1, b2s]
    refine ⟨d', _, _, _, pe, 1, rfl, h1, by omega, by omega, fun h => absurd h n10, fun _ fl => ?_⟩
    rw [if_neg q1, if_pos q2]
  rw [if_neg q2]
  by_cases q3 : ch = 102
  · obtain ⟨d', e1, h1, h2⟩ := rnd_class (p := -pe) (s := s) hN hc h10 (by omega) (by omega) (by omega) (by omega) (by omega)
    rw [show -pe + s = s - pe by omega] at e1 h1
    rw [if_pos q3, zI_neg, e1, b2s]
    refine ⟨d', _, _, _, pe, 0, rfl, h1, by omega, by omega, fun _ fl => ?_, fun h => absurd rfl h⟩
    rw [if_neg q1, if_neg q2, if_pos q3]
  rw [if_neg q3, b1s]
  have hmx : (if zI pe < (1 : Int32) then (1 : Int32) else zI pe) = zI (max pe 1) := by
    by_cases q : pe < 1
    · rw [if_pos (by rw [zI_lit, zI_lt (by omega) (by omega) (by omega) (by omega)]; exact q), show max pe 1 = 1 by omega]; rfl
    · rw [if_neg (by rw [zI_lit, zI_lt (by omega) (by omega) (by omega) (by omega)]; exact q), show max pe 1 = pe by omega]
  rw [hmx]
  have hq : 1 ≤ max pe 1 ∧ max pe 1 ≤ 9999 := by omega
  generalize max pe 1 = q at hq ⊢
  obtain ⟨d', e1, h1, h2⟩ := rnd_class (p := (n : Int) - 1 - s - (q - 1)) (s := s) hN hc h10 (by omega) (by omega) (by omega) (by omega) (by omega)
  rw [show (n : Int) - 1 - s - (q - 1) + s = (n : Int) - q by omega] at e1 h1
  rw [zI_lit 1, zI_sub, zI_sub, e1, b2s]
  have hn' := h1.2.1
  generalize rndE E n ((n : Int) - q) = E' at h1 h2 ⊢
  generalize rndN E n ((n : Int) - q) = n' at h1 hn' ⊢
  have hex : f_Figures_exponent (zI (n' : Int)) (zI s) = some (zI (xOf n' s)) := by
    unfold f_Figures_exponent f_Figures_isZero f_Figures_top xOf
    by_cases q : n' = 0
    · rw [if_pos (by rw [q]; rfl), b1s, if_neg n10, if_pos q]; rfl
    · rw [if_neg (by rw [zI_lit, zI_eq (by omega) (by omega) (by omega) (by omega)]; omega), b1s, if_pos rfl, b1s, if_neg q, zI_lit, zI_sub, zI_sub]
  have hxr : -41 ≤ xOf n' s ∧ xOf n' s ≤ 40 := by unfold xOf; split <;> omega
  rw [hex, b1s]
  unfold genP
  generalize hx : xOf n' s = x at hxr ⊢
  unfold f_Composer_roundFor_145 f_Composer_roundFor_150
  rw [show (-4 : Int32) = zI (-4) from rfl, show zI q - (1 : Int32) = zI (q - 1) from zI_sub _ 1]
  by_cases a1 : x < -4
  · rw [if_pos (by rw [zI_lt (by omega) (by omega) (by omega) (by omega)]; exact a1), if_pos (Or.inr rfl), if_neg n10]
    refine ⟨d', _, E', n', q - 1, 1, rfl, h1, by omega, by omega, fun h => absurd h n10, fun _ fl => ?_⟩
    rw [if_neg q1, if_neg q2, if_neg q3, if_pos (Or.inl a1)]
  · rw [if_neg (by rw [zI_lt (by omega) (by omega) (by omega) (by omega)]; exact a1)]
    by_cases a2 : x < q
    · rw [if_pos (by rw [zI_lt (by omega) (by omega) (by omega) (by omega)]; exact a2), if_pos (Or.inl rfl), if_pos rfl, zI_sub]
      refine ⟨d', _, E', n', q - 1 - x, 0, rfl, h1, by omega, by omega, fun _ fl => ?_, fun h => absurd rfl h⟩
      rw [if_neg q1, if_neg q2, if_neg q3, if_neg (by omega)]
    · rw [if_neg (by rw [zI_lt (by omega) (by omega) (by omega) (by omega)]; exact a2), if_pos (Or.inr rfl), if_neg n10]
      refine ⟨d', _, E', n', q - 1, 1, rfl, h1, by omega, by omega, fun h => absurd h n10, fun _ fl => ?_⟩
      rw [if_neg q1, if_neg q2, if_neg q3, if_pos (Or.inr (by omega))]
def preP (fl : Int32) (v : Int) : List Int32 := if v < 0 then (if fl &&& 32 = 0 then [45] else [40]) else if fl &&& 4 = 0 then (if fl &&& 128 = 0 then [] else [32]) else [43]
def sufP (fl : Int32) (v : Int) : List Int32 := if v < 0 then (if fl &&& 32 = 0 then [] else [41]) else []
theorem preP_len (fl : Int32) (v : Int) : (preP fl v).length ≤ 1 := by
  unfold preP
  repeat' split
  all_goals simp
theorem signed_100 (hN : 1000000 < N) {v : Int64} (hn : isN (dg 10 v.toInt.natAbs) n) {s pr pe : Int} (s1 : 0 ≤ s) (s2 : s ≤ 40) (p1 : -1 ≤ pr) (p2 : pr ≤ 9999) (hpe : pe = if pr = -1 then 6 else pr) {conv ch : Int32} (hch : f_Directive_smallConversion conv = some ch) (hs : ch = 100 → s = 0) {kind : Nat} {size : Int32} (hsc : f_Argument_scale kind size = some (zI s)) (fl : Int32) {paper : Nat → Int32} {plen : Int32} {l : List Int32} (h3 : rwL 4096 paper plen l) (h4 : l.length < 20000) (dd : Nat → Int32) (cc ss za be we x4 : Int32) :
    ∃ (k' : Nat → Int32) (l' : Int32) (d' : Nat → Int32) (c' b' w : Int32), f_Composer_addSigned_100 N 4096 24 fl (zI pr) conv kind v size paper plen dd cc ss za be we x4 = some (k', l', d', c', zI s, zI (l.length : Int), b', w) ∧ rwL 4096 k' l' (l ++ (sgnP ch (dg 10 v.toInt.natAbs) n s pe fl ++ (if x4 = 0 then [] else [41]))) := by
  obtain ⟨d0, n0, e0, c0⟩ := takeDec hN dd cc ss v (zI s)
  have hnn := isN_uniq (CF_isN c0) hn
  subst hnn
  have h20 := isN_20 (natAbs_lt v) hn
  obtain ⟨d1, c1, E1, n1, b1, w, e1, C1, b11, b12, hw0, hw1⟩ := roundFor_ok (s := s) (pr := pr) (pe := pe) hN c0 (dg10 _) h20 s1 s2 p1 p2 hpe hch hs be
  unfold f_Composer_addSigned_100
  rw [row_size h3, b1s, hsc, b1s, e0, b3s, e1, b4s]
  simp only [has_ok, b1s]
  have hfin : ∀ (ka : Nat → Int32) (la : Int32) (P : List Int32), rwL 4096 ka la (l ++ P) → P.length ≤ 15000 → ∃ (k' : Nat → Int32) (l' : Int32), f_Composer_addSigned_165 4096 ka la d1 c1 (zI s) (zI (l.length : Int)) (zI b1) w x4 = some (k', l', d1, c1, zI s, zI (l.length : Int), zI b1, w) ∧ rwL 4096 k' l' (l ++ (P ++ (if x4 = 0 then [] else [41]))) := by
    intro ka la P hr hP
    unfold f_Composer_addSigned_165
    by_cases q : x4 = 0
    · rw [if_pos q, if_pos q, List.append_nil]
      exact ⟨ka, la, rfl, hr⟩
    · rw [if_neg q, if_neg q]
      obtain ⟨k2, l2, e2, r2⟩ := row_add (c := 41) (by decide) hr (ck_z (z := 41) (by omega) (by omega)) (by rw [List.length_append]; omega)
      rw [e2, b2s]
      rw [List.append_assoc] at r2
      exact ⟨k2, l2, rfl, r2⟩
  by_cases q : w = 0
  · rw [if_pos q]
    obtain ⟨k2, l2, e2, r2⟩ := fixP_class (s := s) hN C1 s1 (by omega) b11 (by omega) fl h3 (by omega)
    rw [e2, b2s]
    rw [← hw0 q fl] at r2
    have hP : (sgnP ch (dg 10 v.toInt.natAbs) n0 s pe fl).length ≤ 15000 := by
      rw [hw0 q fl]
      have := fixP_len E1 (be := b1) fl C1.2.1 s1
      omega
    obtain ⟨k3, l3, e3, r3⟩ := hfin k2 l2 _ r2 hP
    exact ⟨k3, l3, _, _, _, _, e3, r3⟩
  · rw [if_neg q]
    obtain ⟨k2, l2, e2, r2⟩ := expP_class (s := s) hN C1 s1 (by omega) b11 (by omega) fl h3 (by omega)
    rw [e2, b2s]
    rw [← hw1 q fl] at r2
    have hP : (sgnP ch (dg 10 v.toInt.natAbs) n0 s pe fl).length ≤ 15000 := by
      rw [hw1 q fl]
      have := expP_len E1 (n := n1) (s := s) (be := b1) fl
      omega
    obtain ⟨k3, l3, e3, r3⟩ := hfin k2 l2 _ r2 hP
    exact ⟨k3, l3, _, _, _, _, e3, r3⟩
theorem signed_class (hN : 1000000 < N) {v : Int64} (hn : isN (dg 10 v.toInt.natAbs) n) {s pr pe : Int} (s1 : 0 ≤ s) (s2 : s ≤ 40) (p1 : -1 ≤ pr) (p2 : pr ≤ 9999) (hpe : pe = if pr = -1 then 6 else pr) {conv ch : Int32} (hch : f_Directive_smallConversion conv = some ch) (hs : ch = 100 → s = 0) {kind : Nat} {size : Int32} (hsc : f_Argument_scale kind size = some (zI s)) (fl : Int32) {paper : Nat → Int32} {plen : Int32} {l : List Int32} (h3 : rwL 4096 paper plen l) (h4 : l.length < 10000) (dd : Nat → Int32) (cc ss za be we : Int32) :
    ∃ (k' : Nat → Int32) (l' : Int32) (d' : Nat → Int32) (c' b' w : Int32), f_Composer_addSigned N 4096 paper plen 24 dd cc ss za be we fl (zI pr) conv kind v size = some (k', l', d', c', zI s, zI ((l.length : Int) + ((preP fl v.toInt).length : Int)), b', w) ∧ rwL 4096 k' l' (l ++ (preP fl v.toInt ++ (sgnP ch (dg 10 v.toInt.natAbs) n s pe fl ++ sufP fl v.toInt))) := by
  have hadd : ∀ (ch0 : Int32), ck ch0 → ∃ (k' : Nat → Int32) (l' : Int32), f_Row_add 4096 paper plen ch0 = some (k', l') ∧ rwL 4096 k' l' (l ++ [ch0]) := fun ch0 hc0 => row_add (by decide) h3 hc0 (by omega)
  have hgo : ∀ (ka : Nat → Int32) (la : Int32) (ch0 x4 : Int32), rwL 4096 ka la (l ++ [ch0]) → ∃ (k' : Nat → Int32) (l' : Int32) (d' : Nat → Int32) (c' b' w : Int32), f_Composer_addSigned_100 N 4096 24 fl (zI pr) conv kind v size ka la dd cc ss za be we x4 = some (k', l', d', c', zI s, zI ((l.length : Int) + (([ch0] : List Int32).length : Int)), b', w) ∧ rwL 4096 k' l' (l ++ ([ch0] ++ (sgnP ch (dg 10 v.toInt.natAbs) n s pe fl ++ (if x4 = 0 then [] else [41])))) := by
    intro ka la ch0 x4 hr
    obtain ⟨k', l', d', c', b', w, e, r⟩ := signed_100 (s := s) (pr := pr) (pe := pe) hN hn s1 s2 p1 p2 hpe hch hs hsc fl hr (by rw [List.length_append, List.length_singleton]; omega) dd cc ss za be we x4
    refine ⟨k', l', d', c', b', w, ?_, ?_⟩
    · rw [e, List.length_append]; rfl
    · rw [List.append_assoc] at r; exact r
  unfold f_Composer_addSigned f_Composer_addSigned_14 f_Composer_addSigned_32 f_Composer_addSigned_33 f_Composer_addSigned_55
  unfold preP sufP
  simp only [lg0, has_ok, b1s, hz1, ↓reduceIte, n10]
  by_cases q : 0 ≤ v.toInt
  · have hlt : ¬ v.toInt < 0 := by omega
    by_cases q1 : fl &&& 4 = 0
    · by_cases q2 : fl &&& 128 = 0
      · simp only [if_pos q, if_neg hlt, if_pos q1, if_pos q2]
        obtain ⟨k', l', d', c', b', w, e, r⟩ := signed_100 (s := s) (pr := pr) (pe := pe) hN hn s1 s2 p1 p2 hpe hch hs hsc fl h3 (by omega) dd cc ss za be we 0
        refine ⟨k', l', d', c', b', w, ?_, ?_⟩
        · rw [e]; simp
        · rw [if_pos rfl] at r
          exact r
      · simp only [if_pos q, if_neg hlt, if_pos q1, if_neg q2]
        obtain ⟨ka, la, ea, ra⟩ := hadd 32 (ck_z (z := 32) (by omega) (by omega))
        obtain ⟨k', l', d', c', b', w, e, r⟩ := hgo ka la 32 0 ra
        rw [ea, b2s]
        rw [if_pos rfl] at r
        exact ⟨k', l', d', c', b', w, e, r⟩
    · simp only [if_pos q, if_neg hlt, if_neg q1]
      obtain ⟨ka, la, ea, ra⟩ := hadd 43 (ck_z (z := 43) (by omega) (by omega))
      obtain ⟨k', l', d', c', b', w, e, r⟩ := hgo ka la 43 0 ra
      rw [ea, b2s]
      rw [if_pos rfl] at r
      exact ⟨k', l', d', c', b', w, e, r⟩
  · have hlt : v.toInt < 0 := by omega
    by_cases q1 : fl &&& 32 = 0
    · simp only [if_neg q, if_pos hlt, if_pos q1]
      obtain ⟨ka, la, ea, ra⟩ := hadd 45 (ck_z (z := 45) (by omega) (by omega))
      obtain ⟨k', l', d', c', b', w, e, r⟩ := hgo ka la 45 0 ra
      rw [ea, b2s]
      rw [if_pos rfl] at r
      exact ⟨k', l', d', c', b', w, e, r⟩
    · simp only [if_neg q, if_pos hlt, if_neg q1]
      obtain ⟨ka, la, ea, ra⟩ := hadd 40 (ck_z (z := 40) (by omega) (by omega))
      obtain ⟨k', l', d', c', b', w, e, r⟩ := hgo ka la 40 1 ra
      rw [ea, b2s]
      rw [if_neg n10] at r
      exact ⟨k', l', d', c', b', w, e, r⟩
end PUsigned
