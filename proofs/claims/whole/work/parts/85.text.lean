section PUtext
variable {N : Nat}
def wB : Nat → Int64 → List Int32
  | 0, _ => []
  | k + 1, x => if x = 0 then [] else (x &&& 255).toInt32 :: wB k (mm_lr x 8)
def wOK : Nat → Int64 → Bool
  | 0, x => decide (x = 0)
  | k + 1, x => decide (x = 0) || (decide (0 ≤ ((x &&& 255).toInt32).toInt ∧ ((x &&& 255).toInt32).toInt < 65536) && wOK k (mm_lr x 8))
theorem word_2 : ∀ (k fuel : Nat) (x : Int64) (l : List Int32) (piece : Nat → Int32) (size : Int32), k < fuel → wOK k x = true → rwL 20200 piece size l → l.length + k ≤ 20200 → ∃ (k' : Nat → Int32) (l' : Int32), f_Mo_word_2 20200 fuel piece size x = some (k', l') ∧ rwL 20200 k' l' (l ++ wB k x) := by
  intro k
  induction k with
  | zero =>
    intro fuel x l piece size h1 h2 h3 h4
    obtain ⟨fu, rfl, -⟩ := fuelS h1
    have hx : x = 0 := of_decide_eq_true h2
    rw [f_Mo_word_2, if_pos ((lg_cmp_eq x 0).mpr hx), wB, List.append_nil]
    exact ⟨_, _, rfl, h3⟩
  | succ k ih =>
    intro fuel x l piece size h1 h2 h3 h4
    obtain ⟨fu, rfl, hfu⟩ := fuelS h1
    rw [f_Mo_word_2, wB]
    by_cases hx : x = 0
    · rw [if_pos ((lg_cmp_eq x 0).mpr hx), if_pos hx, List.append_nil]
      exact ⟨_, _, rfl, h3⟩
    · rw [if_neg (fun q => hx ((lg_cmp_eq x 0).mp q)), if_neg hx]
      rw [wOK, Bool.or_eq_true, Bool.and_eq_true] at h2
      rcases h2 with h2 | h2
      · exact absurd (of_decide_eq_true h2) hx
      · obtain ⟨k1, l1, e1, r1⟩ := row_put (by decide) h3 (ck_of (of_decide_eq_true h2.1)) (by omega)
        rw [e1, b2s]
        obtain ⟨k2, l2, e2, r2⟩ := ih fu (mm_lr x 8) _ k1 l1 (by omega) h2.2 r1 (by rw [List.length_append, List.length_singleton]; omega)
        rw [List.append_assoc] at r2
        exact ⟨k2, l2, e2, r2⟩
theorem word_k (hN : 1000000 < N) {x : Int64} {w : Nat} (h1 : wOK 8 x = true) (h2 : wB 8 x = kW w) {l : List Int32} {piece : Nat → Int32} {size : Int32} (h3 : rwL 20200 piece size l) (h4 : l.length ≤ 20000) : ∃ (k' : Nat → Int32) (l' : Int32), f_Mo_word N 20200 piece size x = some (k', l') ∧ rwL 20200 k' l' (l ++ kW w) := by
  unfold f_Mo_word
  rw [← h2]
  exact word_2 8 N x l piece size (by omega) h1 h3 (by omega)
theorem word_true (hN : 1000000 < N) {l : List Int32} {piece : Nat → Int32} {size : Int32} (h3 : rwL 20200 piece size l) (h4 : l.length ≤ 20000) : ∃ (k' : Nat → Int32) (l' : Int32), f_Mo_word N 20200 piece size 1702195828 = some (k', l') ∧ rwL 20200 k' l' (l ++ kW 4) := word_k hN (by decide +kernel) (by decide +kernel) h3 h4
theorem word_false (hN : 1000000 < N) {l : List Int32} {piece : Nat → Int32} {size : Int32} (h3 : rwL 20200 piece size l) (h4 : l.length ≤ 20000) : ∃ (k' : Nat → Int32) (l' : Int32), f_Mo_word N 20200 piece size 435728179558 = some (k', l') ∧ rwL 20200 k' l' (l ++ kW 3) := word_k hN (by decide +kernel) (by decide +kernel) h3 h4
theorem word_null (hN : 1000000 < N) {l : List Int32} {piece : Nat → Int32} {size : Int32} (h3 : rwL 20200 piece size l) (h4 : l.length ≤ 20000) : ∃ (k' : Nat → Int32) (l' : Int32), f_Mo_word N 20200 piece size 1819047278 = some (k', l') ∧ rwL 20200 k' l' (l ++ kW 5) := word_k hN (by decide +kernel) (by decide +kernel) h3 h4
theorem word_oct (hN : 1000000 < N) {l : List Int32} {piece : Nat → Int32} {size : Int32} (h3 : rwL 20200 piece size l) (h4 : l.length ≤ 20000) : ∃ (k' : Nat → Int32) (l' : Int32), f_Mo_word N 20200 piece size 48 = some (k', l') ∧ rwL 20200 k' l' (l ++ kW 7) := word_k hN (by decide +kernel) (by decide +kernel) h3 h4
theorem word_hex (hN : 1000000 < N) {l : List Int32} {piece : Nat → Int32} {size : Int32} (h3 : rwL 20200 piece size l) (h4 : l.length ≤ 20000) : ∃ (k' : Nat → Int32) (l' : Int32), f_Mo_word N 20200 piece size 30768 = some (k', l') ∧ rwL 20200 k' l' (l ++ kW 8) := word_k hN (by decide +kernel) (by decide +kernel) h3 h4
theorem kW_len {w : Nat} (h : w < 14) : (kW w).length < 40 := by
  unfold kW
  rw [w_lenL w h]
  exact w_40 w h
theorem intL_frac (E : Nat → Nat) {g : Prop} [Decidable g] (hg : ¬ g) : ∀ t : Nat, intL E 0 g t = fracL E ((t : Int) - 1) t := by
  intro t
  induction t with
  | zero => rfl
  | succ t ih =>
    rw [intL, fracL, ih]
    unfold cmL
    rw [if_neg (fun h => hg h.1), List.nil_append, show (t : Int) + 0 = ((t + 1 : Nat) : Int) - 1 by omega, show ((t + 1 : Nat) : Int) - 1 - 1 = (t : Int) - 1 by omega]
theorem bhL_0 (E : Nat → Nat) (q : Int) {pt : Prop} [Decidable pt] (h : ¬ pt) : bhL E q 0 pt = [] := by
  unfold bhL
  rw [if_neg (fun hh => hh.elim (fun h1 => absurd h1 (by omega)) h)]
  rfl
def bitP (b U n : Nat) : List Int32 := fracL (dg b U) ((max n 1 : Nat) - 1 : Int) (max n 1)
theorem bits_n {U b s : Nat} (hU : U < 18446744073709551616) (hb : b = 2 ^ s) (hs : s = 3 ∨ s = 4) : ∃ n, isN (dg b U) n ∧ n ≤ 23 := by
  have hv : (if (64 : Int32) ≤ (64 : Int32) then zJ (U : Int) else zJ (U : Int) &&& ((mm_ll (1 : Int64) 64) - (1 : Int64))) = zJ (U : Int) := if_pos (by decide)
  rcases hs with h | h
  · obtain ⟨d', n, -, hc⟩ := takeBits_ok (N := 2000000) (by omega) (fun _ => 0) 0 0 (zJ (U : Int)) 64 3 hU hv hb (Or.inl ⟨h, rfl⟩)
    exact ⟨n, CF_isN hc, hc.2.1⟩
  · obtain ⟨d', n, -, hc⟩ := takeBits_ok (N := 2000000) (by omega) (fun _ => 0) 0 0 (zJ (U : Int)) 64 4 hU hv hb (Or.inr ⟨h, rfl⟩)
    exact ⟨n, CF_isN hc, hc.2.1⟩
theorem bits_73 (hN : 1000000 < N) {U b s n : Nat} (hU : U < 18446744073709551616) (hb : b = 2 ^ s) {bd : Int32} (hs : s = 3 ∧ bd = 3 ∨ s = 4 ∧ bd = 4) (hn : isN (dg b U) n) {v : Int64} {sz : Int32} (hv : (if (64 : Int32) ≤ sz then v else v &&& ((mm_ll (1 : Int64) sz) - (1 : Int64))) = zJ (U : Int)) {paper : Nat → Int32} {plen : Int32} {l : List Int32} (h3 : rwL 4096 paper plen l) (h4 : l.length < 20000) (dd : Nat → Int32) (cc ss za be : Int32) :
    ∃ (k' : Nat → Int32) (l' : Int32) (d' : Nat → Int32) (c' : Int32), f_Composer_addBits_73 N 4096 24 paper plen dd cc ss za be bd sz v = some (k', l', d', c', 0, za, 0) ∧ rwL 4096 k' l' (l ++ bitP b U n) := by
  obtain ⟨d', n0, e0, hc⟩ := takeBits_ok hN dd cc ss v sz bd hU hv hb hs
  have hnn := isN_uniq (CF_isN hc) hn
  subst hnn
  obtain ⟨k', l', e1, r1⟩ := fixed_ok (s := 0) (be := 0) hN hc (by omega) (by omega) (by omega) (by omega) 0 0 h3 (by omega)
  rw [show zI 0 = (0 : Int32) from rfl] at e1
  unfold f_Composer_addBits_73
  rw [e0, b3s, e1, b2s]
  refine ⟨k', l', d', _, rfl, ?_⟩
  unfold bitP
  rw [intL_frac _ (fun h => h rfl), show (Int.toNat 0) = 0 from rfl, bhL_0 _ _ (fun h => h rfl), List.append_nil, show (max ((n0 : Int) - 0) 1).toNat = max n0 1 by omega] at r1
  exact r1
def baseP (fl ch : Int32) : List Int32 := if fl &&& 2 = 0 then [] else if ch = 111 then kW 7 else kW 8
theorem baseP_len (fl ch : Int32) : (baseP fl ch).length < 40 := by
  unfold baseP
  split
  · decide
  · split
    · exact kW_len (by decide)
    · exact kW_len (by decide)
theorem bits_class (hN : 1000000 < N) {U b s n : Nat} (hU : U < 18446744073709551616) (hb : b = 2 ^ s) {conv ch : Int32} (hch : f_Directive_smallConversion conv = some ch) (hs : s = 3 ∧ ch = 111 ∨ s = 4 ∧ ch = 120) (hn : isN (dg b U) n) {v : Int64} {sz : Int32} (hv : (if (64 : Int32) ≤ sz then v else v &&& ((mm_ll (1 : Int64) sz) - (1 : Int64))) = zJ (U : Int)) (fl : Int32) {paper : Nat → Int32} {plen : Int32} {l : List Int32} (h3 : rwL 4096 paper plen l) (h4 : l.length < 10000) (dd : Nat → Int32) (cc ss za be : Int32) :
    ∃ (k' : Nat → Int32) (l' : Int32) (d' : Nat → Int32) (c' : Int32), f_Composer_addBits N 4096 paper plen 24 dd cc ss za be fl conv v sz = some (k', l', d', c', 0, zI ((l.length : Int) + ((baseP fl ch).length : Int)), 0) ∧ rwL 4096 k' l' (l ++ (baseP fl ch ++ bitP b U n)) := by
  have hbl := baseP_len fl ch
  have hgo : ∀ (ka : Nat → Int32) (la : Int32) (W : List Int32) (y : Int32), W.length < 40 → rwL 4096 ka la (l ++ W) → (y = 0 ↔ ch = 120) → ∃ (k' : Nat → Int32) (l' : Int32) (d' : Nat → Int32) (c' : Int32), f_Composer_addBits_41 N 4096 24 v sz ka la dd cc ss za be y = some (k', l', d', c', 0, zI ((l.length : Int) + (W.length : Int)), 0) ∧ rwL 4096 k' l' (l ++ (W ++ bitP b U n)) := by
    intro ka la W y hW hr hy
    unfold f_Composer_addBits_41
    rw [row_size hr, b1s]
    have e9 : ((l ++ W).length : Int) = (l.length : Int) + (W.length : Int) := by rw [List.length_append]; omega
    rw [e9]
    by_cases q : y = 0
    · rw [if_pos q]
      have hs4 : s = 3 ∧ (4 : Int32) = 3 ∨ s = 4 ∧ (4 : Int32) = 4 := by
        rcases hs with h | h
        · exact absurd (h.2.symm.trans (hy.mp q)) (by decide)
        · exact Or.inr ⟨h.1, rfl⟩
      obtain ⟨k', l', d', c', e, r⟩ := bits_73 (bd := 4) hN hU hb hs4 hn hv hr (by rw [List.length_append]; omega) dd cc ss (zI ((l.length : Int) + (W.length : Int))) be
      rw [List.append_assoc] at r
      exact ⟨k', l', d', c', e, r⟩
    · rw [if_neg q]
      have hs3 : s = 3 ∧ (3 : Int32) = 3 ∨ s = 4 ∧ (3 : Int32) = 4 := by
        rcases hs with h | h
        · exact Or.inl ⟨h.1, rfl⟩
        · exact absurd (hy.mpr h.2) q
      obtain ⟨k', l', d', c', e, r⟩ := bits_73 (bd := 3) hN hU hb hs3 hn hv hr (by rw [List.length_append]; omega) dd cc ss (zI ((l.length : Int) + (W.length : Int))) be
      rw [List.append_assoc] at r
      exact ⟨k', l', d', c', e, r⟩
  unfold f_Composer_addBits f_Composer_addBits_14 f_Composer_addBits_38 f_Composer_addBits_38_2
  rw [hch, b1s]
  unfold baseP
  simp only [has_ok, b1s, hz1, ↓reduceIte, n10]
  rcases hs with ⟨-, hc⟩ | ⟨-, hc⟩
  · rw [if_pos hc]
    by_cases q : fl &&& 2 = 0
    · rw [if_pos q, if_pos q]
      exact hgo paper plen [] 1 (by decide) (by rw [List.append_nil]; exact h3) ⟨fun h => absurd h n10, fun h => absurd (hc.symm.trans h) (by decide)⟩
    · rw [if_neg q, if_neg q, if_pos hc]
      obtain ⟨ka, la, e, r⟩ := row_addWord (N := N) (k := 7) (by decide) (by decide) h3 (by omega) hN
      rw [e, b2s]
      exact hgo ka la (kW 7) 1 (kW_len (by decide)) r ⟨fun h => absurd h n10, fun h => absurd (hc.symm.trans h) (by decide)⟩
  · have hc1 : ¬ ch = 111 := by rw [hc]; decide
    rw [if_neg hc1]
    by_cases q : fl &&& 2 = 0
    · rw [if_pos q, if_pos q]
      exact hgo paper plen [] 0 (by decide) (by rw [List.append_nil]; exact h3) ⟨fun _ => hc, fun _ => rfl⟩
    · rw [if_neg q, if_neg q, if_neg hc1]
      obtain ⟨ka, la, e, r⟩ := row_addWord (N := N) (k := 8) (by decide) (by decide) h3 (by omega) hN
      rw [e, b2s]
      exact hgo ka la (kW 8) 0 (kW_len (by decide)) r ⟨fun _ => hc, fun _ => rfl⟩
theorem numeric_248 {F : Nat → Int32} {E : Nat → Nat} {m : Nat} {top : Int} (h : RF F (zI (m : Int)) E top m) (fl fr pd pt : Int32) : ∀ (k fuel i : Nat) (piece : Nat → Int32) (size : Int32) (l : List Int32), i + k = m → k < fuel → rwL 20200 piece size l → l.length + k ≤ 20000 → ∃ (k' : Nat → Int32) (l' : Int32), f_Mo_numeric_248 fl 20200 64 fuel piece size fr pd F (zI (m : Int)) pt 0 (zI (i : Int)) = some (k', l', fr, pd, F, zI (m : Int), pt) ∧ rwL 20200 k' l' (l ++ fracL E (top - i) k) := by
  obtain ⟨-, hm, hF, h0, h16, t1, t2⟩ := h
  intro k
  induction k with
  | zero =>
    intro fuel i piece size l h1 h2 h3 h4
    obtain ⟨fu, rfl, -⟩ := fuelS h2
    rw [f_Mo_numeric_248, if_pos (by rw [zI_le (by omega) (by omega) (by omega) (by omega)]; omega)]
    unfold f_Mo_numeric_313
    rw [if_pos rfl, fracL, List.append_nil]
    exact ⟨_, _, rfl, h3⟩
  | succ k ih =>
    intro fuel i piece size l h1 h2 h3 h4
    obtain ⟨fu, rfl, hfu⟩ := fuelS h2
    have hi : ¬ (zI (i : Int) < 0 ∨ 64 ≤ (zI (i : Int)).toNatClampNeg) := by
      rw [zI_nat (by omega) (by omega), zI_lit, zI_lt (by omega) (by omega) (by omega) (by omega)]; omega
    have he := eZ_lt h16 (by omega) (top - (i : Int))
    obtain ⟨k1, l1, e1, r1⟩ := row_put (by decide) h3 (eZ_ck h16 (top - (i : Int))) (by omega)
    obtain ⟨k2, l2, e2, r2⟩ := ih fu (i + 1) k1 l1 _ (by omega) (by omega) r1 (by rw [List.length_append, List.length_singleton]; omega)
    rw [f_Mo_numeric_248, if_neg (by rw [zI_le (by omega) (by omega) (by omega) (by omega)]; omega), if_neg hi, if_neg hi, if_neg hi, zI_nat (by omega) (by omega), show ((i : Int)).toNat = i by omega, hF i (by omega)]
    have hr2 : rwL 20200 k2 l2 (l ++ fracL E (top - (i : Int)) (k + 1)) := by
      rw [fracL]
      rw [List.append_assoc] at r2
      rw [show top - (i : Int) - 1 = top - ((i + 1 : Nat) : Int) by omega]
      exact r2
    have hput : (if (10 : Int32) ≤ zI (eZ E (top - (i : Int)) : Int) then f_Mo_put 20200 piece size (97 + zI (eZ E (top - (i : Int)) : Int) - 10) else f_Mo_put 20200 piece size (48 + zI (eZ E (top - (i : Int)) : Int))) = some (k1, l1) := by
      rw [← e1, sg_16 _ he]
      by_cases q : eZ E (top - (i : Int)) < 10
      · rw [if_neg (by rw [zI_lit, zI_le (by omega) (by omega) (by omega) (by omega)]; omega), if_pos q, zI_lit, zI_add]
      · rw [if_pos (by rw [zI_lit, zI_le (by omega) (by omega) (by omega) (by omega)]; omega), if_neg q, zI_lit, zI_lit, zI_add, zI_sub]
        congr 2
        omega
    have hif : ∀ (p : Prop) [Decidable p] (X Y : Option ((Nat → Int32) × Int32)) (G : (Nat → Int32) → Int32 → Option ((Nat → Int32) × Int32 × Int32 × Int32 × (Nat → Int32) × Int32 × Int32)), (if p then mm_b2 X G else mm_b2 Y G) = mm_b2 (if p then X else Y) G := by
      intro p _ X Y G
      split <;> rfl
    rw [hif, hput, b2s, show zI (i : Int) + 1 = zI ((i : Int) + 1) from zI_add _ 1, cast1 i, e2]
    exact ⟨k2, l2, rfl, hr2⟩
theorem bits_ref (hN : 1000000 < N) {sizes : Nat → Int32} {values : Nat → Int64} {a : Nat} (ha : a < 9) {U b s n : Nat} (hU : U < 18446744073709551616) (hb : b = 2 ^ s) {ch : Int32} (hs : s = 3 ∧ ch = 111 ∨ s = 4 ∧ ch = 120) (hn : isN (dg b U) n) (hn23 : n ≤ 23) {v : Int64} (hva : values a = v) (hv : (if sizes a = (64 : Int32) then v else v &&& ((mm_ll (1 : Int64) (sizes a)) - (1 : Int64))) = zJ (U : Int)) (fl pr : Int32) {piece : Nat → Int32} {size : Int32} (h3 : rwL 20200 piece size []) (fr : Int32) (F : Nat → Int32) (mn pt : Int32) :
    ∃ (k' : Nat → Int32) (l' : Int32) (F' : Nat → Int32) (m' pt' : Int32), f_Mo_numeric N 9 sizes 9 values fl pr (zI (a : Int)) 20200 piece size fr 64 F mn pt ch = some (k', l', zI ((baseP fl ch).length : Int), (if fl &&& 8 = 0 then 0 else 1), F', m', pt') ∧ rwL 20200 k' l' (baseP fl ch ++ bitP b U n) := by
  have hbl := baseP_len fl ch
  have hgo : ∀ (ka : Nat → Int32) (la : Int32) (W : List Int32) (pd : Int32), W.length < 40 → rwL 20200 ka la W → ∃ (k' : Nat → Int32) (l' : Int32) (F' : Nat → Int32) (m' pt' : Int32), f_Mo_numeric_161 N 9 sizes 9 values fl pr (zI (a : Int)) 20200 64 ch ka la fr pd F mn pt v 0 0 = some (k', l', zI (W.length : Int), pd, F', m', pt') ∧ rwL 20200 k' l' (W ++ bitP b U n) := by
    intro ka la W pd hW hr
    unfold f_Mo_numeric_161 f_Mo_numeric_229
    have h100 : ¬ ch = 100 := by rcases hs with h | h <;> (rw [h.2]; decide)
    rw [if_neg h100, if_pos rfl, if_neg (aok ha), anat ha]
    have hif : ∀ (p : Prop) [Decidable p] (X Y : Int64) (G : Int64 → Option ((Nat → Int32) × Int32 × Int32 × Int32 × (Nat → Int32) × Int32 × Int32)), (if p then G X else G Y) = G (if p then X else Y) := by
      intro p _ X Y G
      split <;> rfl
    rw [hif (sizes a = 64) v (v &&& ((mm_ll (1 : Int64) (sizes a)) - (1 : Int64))) (fun y => if ch = 111 then mm_b3 (f_Mo_spread N 64 F pt y 8) (fun o_17 o_18 o_19 => f_Mo_numeric_248 fl 20200 64 N ka la la pd o_17 o_18 o_19 0 0) else mm_b3 (f_Mo_spread N 64 F pt y 16) (fun o_10 o_11 o_12 => f_Mo_numeric_248 fl 20200 64 N ka la la pd o_10 o_11 o_12 0 0))]
    rw [hv]
    have hfin : ∀ (b : Nat), isN (dg b U) n → (b = 8 ∨ b = 16) → ∃ (k' : Nat → Int32) (l' : Int32) (F' : Nat → Int32) (m' pt' : Int32), mm_b3 (f_Mo_spread N 64 F pt (zJ (U : Int)) (zI (b : Int))) (fun o_17 o_18 o_19 => f_Mo_numeric_248 fl 20200 64 N ka la la pd o_17 o_18 o_19 0 0) = some (k', l', zI (W.length : Int), pd, F', m', pt') ∧ rwL 20200 k' l' (W ++ bitP b U n) := by
      intro b hnb hb
      obtain ⟨F', m, e1, r1, m1, m2, m3⟩ := spread_ok (b := b) hN (by omega) hU F pt
      have hm := RF_m hnb r1 m1 m3
      obtain ⟨k2, l2, e2, r2⟩ := numeric_248 r1 fl la pd (zI (m : Int)) m N 0 ka la W (by omega) (by omega) hr (by omega)
      rw [e1, b3s]
      rw [show zI ((0 : Nat) : Int) = (0 : Int32) from rfl] at e2
      rw [e2, hr.1]
      refine ⟨k2, l2, _, _, _, rfl, ?_⟩
      unfold bitP
      rw [show (m : Int) - 1 - ((0 : Nat) : Int) = (m : Int) - 1 by omega, hm] at r2
      exact r2
    rcases hs with ⟨hs, hc⟩ | ⟨hs, hc⟩
    · have hb8 : b = 8 := by rw [hb, hs]
      subst hb8
      simp only [if_pos hc]
      exact hfin 8 hn (Or.inl rfl)
    · have hb16 : b = 16 := by rw [hb, hs]
      subst hb16
      simp only [if_neg (show ¬ ch = 111 by rw [hc]; decide)]
      exact hfin 16 hn (Or.inr rfl)
  unfold f_Mo_numeric f_Mo_numeric_36 f_Mo_numeric_37 f_Mo_numeric_54 f_Mo_numeric_55 f_Mo_numeric_128 f_Mo_numeric_158
  have hpd : ((if fl &&& 8 = 0 then (0 : Int32) else 1) = 0 ∨ (if fl &&& 8 = 0 then (0 : Int32) else 1) = 1) := by
    by_cases q : fl &&& 8 = 0
    · rw [if_pos q]; exact Or.inl rfl
    · rw [if_neg q]; exact Or.inr rfl
  rw [if_neg (aok ha), anat ha, hva, mo_has, show flg 48 = 8 from by decide, b1s, if_pos hpd]
  generalize (if fl &&& 8 = 0 then (0 : Int32) else 1) = pd
  unfold baseP
  simp only [mo_has, b1s, hz1, ↓reduceIte, flg_35]
  have hw1 : ∃ (k' : Nat → Int32) (l' : Int32), f_Mo_word N 20200 piece size 48 = some (k', l') ∧ rwL 20200 k' l' (kW 7) := word_oct hN h3 (by simp)
  have hw2 : ∃ (k' : Nat → Int32) (l' : Int32), f_Mo_word N 20200 piece size 30768 = some (k', l') ∧ rwL 20200 k' l' (kW 8) := word_hex hN h3 (by simp)
  obtain ⟨ka, la, ea, ra⟩ := hw1
  obtain ⟨kb, lb, eb, rb⟩ := hw2
  rw [ea, eb, b2s, b2s]
  have g1 := hgo piece size [] pd (by decide) h3
  have g2 := hgo ka la (kW 7) pd (kW_len (by decide)) ra
  have g3 := hgo kb lb (kW 8) pd (kW_len (by decide)) rb
  rcases hs with ⟨-, hc⟩ | ⟨-, hc⟩
  · simp only [if_pos hc]
    by_cases q : fl &&& 2 = 0
    · simp only [if_pos q]
      exact g1
    · simp only [if_neg q]
      exact g2
  · simp only [if_neg (show ¬ ch = 111 by rw [hc]; decide), if_pos hc]
    by_cases q : fl &&& 2 = 0
    · simp only [if_pos q]
      exact g1
    · simp only [if_neg q]
      exact g3
end PUtext
