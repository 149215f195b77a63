section PUprint
abbrev TC := Int32 × (Nat → Int32) × Int32 × Int32 × Int32 × Int32 × Int32 × Int32 × Int32 × Int32 × (Nat → Int32) × Int32 × Int32 × Int32 × Int32 × Int32 × Int32 × Int32 × Int32 × Int32 × Int32
abbrev TR := Int32 × (Nat → Int32) × Int32 × Int32 × Int32 × Int32 × Int32 × Int32 × Int32 × Int32 × Int32 × Int32 × Int32 × Int32 × (Nat → Int32) × Int32 × Int32 × Int32 × (Nat → Int32) × Int32 × Int32
def good : TC → TR → Prop
  | (ret, pk, pl, _, _, _, _, _, _, _, _, _, _, _, _, _, _, f, pla, _, _), (pla2, dk, dl, f2, _, _, _, _, _, _, _, _, _, _, _, _, _, _, _, _, _) => ∃ D : List Int32, rwL 4096 pk pl D ∧ D.length ≤ 4096 ∧ f = f2 ∧ pla = pla2 ∧ ((f = 0 ∧ ret = zI (D.length : Int) ∧ rwL 4096 dk dl D) ∨ (f ≠ 0 ∧ ¬ f ≤ 0 ∧ ret = -1 ∧ D = []))
def OUT (C : Option TC) (R : Option TR) : Prop := ∃ x y, C = some x ∧ R = some y ∧ good x y
theorem out_ok {C : Option TC} {R : Option TR} {pk dk : Nat → Int32} {pl dl ret pla un pa at_ nx2 lt : Int32} {ix : Int32} {fs : Int32} {tw : Int32} {wd : Int32} {pr : Int32} {cv : Int32} {nx : Int32} {fd : Nat → Int32} {fc : Int32} {fg : Int32} {st : Int32} {za : Int32} {be : Int32} {we : Int32} {rix : Int32} {rfs : Int32} {rtw : Int32} {rwd : Int32} {rpr : Int32} {rcv : Int32} {rag : Int32} {pc : Nat → Int32} {sz : Int32} {fr : Int32} {pd : Int32} {fi : Nat → Int32} {mn : Int32} {pt : Int32} (D : List Int32) (hC : C = some (ret, pk, pl, ix, fs, tw, wd, pr, cv, nx, fd, fc, fg, st, za, be, we, 0, pla, un, pa)) (hR : R = some (pla, dk, dl, 0, at_, rix, rfs, rtw, rwd, rpr, rcv, rag, nx2, lt, pc, sz, fr, pd, fi, mn, pt)) (h1 : rwL 4096 pk pl D) (h2 : D.length ≤ 4096) (h3 : ret = zI (D.length : Int)) (h4 : rwL 4096 dk dl D) : OUT C R :=
  ⟨_, _, hC, hR, D, h1, h2, rfl, rfl, Or.inl ⟨rfl, h3, h4⟩⟩
theorem out_bad {C : Option TC} {R : Option TR} {pk dk : Nat → Int32} {pl dl f pla un pa at_ nx2 lt : Int32} {ix : Int32} {fs : Int32} {tw : Int32} {wd : Int32} {pr : Int32} {cv : Int32} {nx : Int32} {fd : Nat → Int32} {fc : Int32} {fg : Int32} {st : Int32} {za : Int32} {be : Int32} {we : Int32} {rix : Int32} {rfs : Int32} {rtw : Int32} {rwd : Int32} {rpr : Int32} {rcv : Int32} {rag : Int32} {pc : Nat → Int32} {sz : Int32} {fr : Int32} {pd : Int32} {fi : Nat → Int32} {mn : Int32} {pt : Int32} (hC : C = some (-1, pk, pl, ix, fs, tw, wd, pr, cv, nx, fd, fc, fg, st, za, be, we, f, pla, un, pa)) (hR : R = some (pla, dk, dl, f, at_, rix, rfs, rtw, rwd, rpr, rcv, rag, nx2, lt, pc, sz, fr, pd, fi, mn, pt)) (h1 : rwL 4096 pk pl []) (h2 : f ≠ 0) (h3 : ¬ f ≤ 0) : OUT C R :=
  ⟨_, _, hC, hR, [], h1, by decide, rfl, rfl, Or.inr ⟨h2, h3, rfl, rfl⟩⟩
theorem row_upd {n : Nat} {kept : Nat → Int32} {len : Int32} {l : List Int32} {c : Int32} (h : rwL n kept len l) (hc : ck c) (hl : l.length < 100000) : rwL n (upd kept l.length c) (zI ((l.length : Int) + 1)) (l ++ [c]) := by
  obtain ⟨-, hb, hk⟩ := h
  have e : (l ++ [c]).length = l.length + 1 := by rw [List.length_append, List.length_singleton]
  refine ⟨by rw [e]; congr 1, by rw [e]; omega, fun j d hj => ?_⟩
  by_cases q : j < l.length
  · rw [List.getElem?_append_left q] at hj
    rw [upd_ne _ _ (by omega)]
    exact hk j d hj
  · have hjl : j < l.length + 1 := by rw [← e]; exact (List.getElem?_eq_some_iff.mp hj).1
    have hje : j = l.length := by omega
    subst hje
    rw [List.getElem?_append_right (Nat.le_refl _), Nat.sub_self] at hj
    cases hj
    exact ⟨hc, fun _ => upd_same _ _ _⟩
variable {N : Nat}
theorem fol {pk : Nat → Int32} {pl : Int32} {D : List Int32} (h : rwL 4096 pk pl D) : f_DP_faultOfLength pl = some (if D.length ≤ 4096 then 0 else 12) := by
  have hb := h.2.1
  unfold f_DP_faultOfLength
  rw [row_size h, b1s]
  by_cases q : D.length ≤ 4096
  · rw [if_pos (by rw [zI_lit, zI_le (by omega) (by omega) (by omega) (by omega)]; omega), if_pos q]
  · rw [if_neg (by rw [zI_lit, zI_le (by omega) (by omega) (by omega) (by omega)]; omega), if_neg q]
theorem run_145 (K : (Nat → Int32) → Int32 → Int32 → Int32 → Int32 → Int32 → Int32 → Int32 → Int32 → Int32 → Int32 → Int32 → Int32 → (Nat → Int32) → Int32 → Int32 → Int32 → (Nat → Int32) → Int32 → Int32 → Option TR) {pc : Nat → Int32} {Q : List Int32} {sz : Int32} (hQ : rwL 20200 pc sz Q) (hQl : Q.length ≤ 20200) (f at_ : Int32) (rix : Int32) (rfs : Int32) (rtw : Int32) (rwd : Int32) (rpr : Int32) (rcv : Int32) (rag : Int32) (nx2 lt fr pd : Int32) (fi : Nat → Int32) (mn pt : Int32) : ∀ (k fuel i : Nat) (dk : Nat → Int32) (dl : Int32) (D : List Int32), i + k = Q.length → k < fuel → rwL 4096 dk dl D → D.length + k ≤ 4096 → ∃ (dk' : Nat → Int32) (dl' : Int32), f_Mo_run_145 4096 20200 K fuel dk dl f at_ rix rfs rtw rwd rpr rcv rag nx2 lt pc sz fr pd fi mn pt (zI (i : Int)) = K dk' dl' f at_ rix rfs rtw rwd rpr rcv rag nx2 lt pc sz fr pd fi mn pt ∧ rwL 4096 dk' dl' (D ++ Q.drop i) := by
  obtain ⟨hs, -, hk⟩ := hQ
  subst hs
  intro k
  induction k with
  | zero =>
    intro fuel i dk dl D h1 h2 h3 h4
    obtain ⟨fu, rfl, -⟩ := fuelS h2
    rw [f_Mo_run_145, if_pos (by rw [zI_le (by omega) (by omega) (by omega) (by omega)]; omega), List.drop_eq_nil_of_le (by omega), List.append_nil]
    exact ⟨_, _, rfl, h3⟩
  | succ k ih =>
    intro fuel i dk dl D h1 h2 h3 h4
    obtain ⟨fu, rfl, hfu⟩ := fuelS h2
    have hi : i < Q.length := by omega
    have hg := hk i _ (List.getElem?_eq_getElem hi)
    have hr := row_upd h3 hg.1 (by omega)
    obtain ⟨dk', dl', e, r⟩ := ih fu (i + 1) _ _ _ (by omega) (by omega) hr (by rw [List.length_append, List.length_singleton]; omega)
    rw [f_Mo_run_145, if_neg (by rw [zI_le (by omega) (by omega) (by omega) (by omega)]; omega), zI_nat (by omega) (by omega), if_neg (by rw [zI_lit, zI_lt (by omega) (by omega) (by omega) (by omega)]; omega), h3.1, zI_nat (by omega) (by omega), if_neg (by rw [zI_lit, zI_lt (by omega) (by omega) (by omega) (by omega)]; omega), show ((i : Int)).toNat = i by omega, show ((D.length : Int)).toNat = D.length by omega, hg.2 (by omega), show zI (i : Int) + 1 = zI ((i : Int) + 1) from zI_add _ 1, cast1 i, show zI (D.length : Int) + 1 = zI ((D.length : Int) + 1) from zI_add _ 1, e]
    refine ⟨dk', dl', rfl, ?_⟩
    rw [List.drop_eq_getElem_cons hi]
    rw [List.append_assoc] at r
    exact r
theorem run_120 (hN : 1000000 < N) (K : (Nat → Int32) → Int32 → Int32 → Int32 → Int32 → Int32 → Int32 → Int32 → Int32 → Int32 → Int32 → Int32 → Int32 → (Nat → Int32) → Int32 → Int32 → Int32 → (Nat → Int32) → Int32 → Int32 → Option TR) {pc : Nat → Int32} {Q : List Int32} {sz : Int32} (hQ : rwL 20200 pc sz Q) (hQl : Q.length ≤ 20200) {dk : Nat → Int32} {dl : Int32} {D : List Int32} (hD : rwL 4096 dk dl D) (hDl : D.length ≤ 4096) (f at_ : Int32) (rix : Int32) (rfs : Int32) (rtw : Int32) (rwd : Int32) (rpr : Int32) (rcv : Int32) (rag : Int32) (nx2 lt fr pd : Int32) (fi : Nat → Int32) (mn pt x1 : Int32) : (D.length + Q.length ≤ 4096 → ∃ (dk' : Nat → Int32) (dl' : Int32), f_Mo_run_120 N 4096 20200 K dk dl f at_ rix rfs rtw rwd rpr rcv rag nx2 lt pc sz fr pd fi mn pt x1 = K dk' dl' f at_ rix rfs rtw rwd rpr rcv rag nx2 lt pc sz fr pd fi mn pt ∧ rwL 4096 dk' dl' (D ++ Q)) ∧ (¬ D.length + Q.length ≤ 4096 → f_Mo_run_120 N 4096 20200 K dk dl f at_ rix rfs rtw rwd rpr rcv rag nx2 lt pc sz fr pd fi mn pt x1 = some (x1, dk, dl, 12, at_, rix, rfs, rtw, rwd, rpr, rcv, rag, nx2, lt, pc, sz, fr, pd, fi, mn, pt)) := by
  have e : dl + sz = zI ((D.length : Int) + (Q.length : Int)) := by rw [hD.1, hQ.1, zI_add]
  unfold f_Mo_run_120
  rw [e]
  constructor
  · intro q
    rw [if_pos (by rw [zI_lit, zI_le (by omega) (by omega) (by omega) (by omega)]; omega)]
    obtain ⟨dk', dl', e, r⟩ := run_145 K hQ hQl f at_ rix rfs rtw rwd rpr rcv rag nx2 lt fr pd fi mn pt Q.length N 0 dk dl D (by omega) (by omega) hD (by omega)
    exact ⟨dk', dl', e, r⟩
  · intro q
    rw [if_neg (by rw [zI_lit, zI_le (by omega) (by omega) (by omega) (by omega)]; omega)]
variable {l : List Int32} {fk gk : Nat → Int32} {fl gl : Int32} {n : Nat} {xk : Nat → Nat} {xv : Nat → Int64} {xs xtl : Nat → Int32} {xtk : Nat → Nat → Int32} {kinds sizes texts : Nat → Int32} {values : Nat → Int64}
theorem p38_bad {pk : Nat → Int32} {pl : Int32} {D : List Int32} (h : rwL 4096 pk pl D) (ix : Int32) (fs : Int32) (tw : Int32) (wd : Int32) (pr : Int32) (cv : Int32) (nx : Int32) (fd : Nat → Int32) (fc : Int32) (fg : Int32) (st : Int32) (za : Int32) (be : Int32) (we : Int32) {f : Int32} (hf : f ≠ 0) (pla u pv x2 : Int32) {fuel : Nat} (hfu : 0 < fuel) : ∃ pl', f_DP_print_38 N 256 fk fl 4096 24 (zI (n : Int)) xk xv xs xtl xtk fuel pk pl ix fs tw wd pr cv nx fd fc fg st za be we f pla u pv (zI (l.length : Int)) x2 = some (-1, pk, pl', ix, fs, tw, wd, pr, cv, nx, fd, fc, fg, st, za, be, we, f, pla, u, pv) ∧ rwL 4096 pk pl' [] := by
  obtain ⟨fu, rfl, -⟩ := fuelS hfu
  obtain ⟨l', e, r⟩ := row_cut h (s := 0) (by omega) (by omega)
  rw [show zI 0 = (0 : Int32) from rfl] at e
  refine ⟨l', ?_, r⟩
  rw [f_DP_print_38]
  unfold f_DP_print_87
  rw [if_neg hf, if_neg hf, e, b1s]
  split <;> rfl
theorem run_join (hN : 1000000 < N) (hf : fmt l) (h1 : rwL 256 fk fl l) (h2 : rwL 256 gk gl l) (hn : n ≤ 9) (hA : ∀ q, q < n → argOK (xk q) (xv q) (xs q) (xtk q) (xtl q) (kinds q) (values q) (sizes q) texts q) : ∀ (k fuel fuel' p : Nat) (D : List Int32) (pk : Nat → Int32) (pl : Int32) (dk : Nat → Int32) (dl : Int32) (u pv : Int) (ix : Int32) (fs : Int32) (tw : Int32) (wd : Int32) (pr : Int32) (cv : Int32) (nx : Int32) (fd : Nat → Int32) (fc : Int32) (fg : Int32) (st : Int32) (za : Int32) (be : Int32) (we : Int32) (rix : Int32) (rfs : Int32) (rtw : Int32) (rwd : Int32) (rpr : Int32) (rcv : Int32) (rag : Int32) (pc : Nat → Int32) (sz : Int32) (fr : Int32) (pd : Int32) (fi : Nat → Int32) (mn : Int32) (pt : Int32), l.length ≤ p + k → p ≤ l.length → k + 1 < fuel → k < fuel' → rwL 4096 pk pl D → rwL 4096 dk dl D → D.length ≤ 4096 → 0 ≤ u → u ≤ (p : Int) → 0 ≤ pv → pv ≤ 9 →
    OUT (f_DP_print_38 N 256 fk fl 4096 24 (zI (n : Int)) xk xv xs xtl xtk fuel pk pl ix fs tw wd pr cv nx fd fc fg st za be we 0 (-1) (zI u) (zI pv) (zI (l.length : Int)) (zI (p : Int))) (f_Mo_run_27 N 256 gk gl (zI (n : Int)) 9 kinds 9 sizes 9 values 576 texts 4096 20200 64 fuel' dk dl 0 (zI (p : Int)) rix rfs rtw rwd rpr rcv rag (zI u) (zI (pv - 1)) pc sz fr pd fi mn pt) := by
  have hl := hf.1
  have hend : ∀ (fuel fuel' p : Nat) (D : List Int32) (pk : Nat → Int32) (pl : Int32) (dk : Nat → Int32) (dl : Int32) (u pv : Int) (ix : Int32) (fs : Int32) (tw : Int32) (wd : Int32) (pr : Int32) (cv : Int32) (nx : Int32) (fd : Nat → Int32) (fc : Int32) (fg : Int32) (st : Int32) (za : Int32) (be : Int32) (we : Int32) (rix : Int32) (rfs : Int32) (rtw : Int32) (rwd : Int32) (rpr : Int32) (rcv : Int32) (rag : Int32) (pc : Nat → Int32) (sz : Int32) (fr : Int32) (pd : Int32) (fi : Nat → Int32) (mn : Int32) (pt : Int32), p = l.length → 0 < fuel → 0 < fuel' → rwL 4096 pk pl D → rwL 4096 dk dl D → D.length ≤ 4096 →
    OUT (f_DP_print_38 N 256 fk fl 4096 24 (zI (n : Int)) xk xv xs xtl xtk fuel pk pl ix fs tw wd pr cv nx fd fc fg st za be we 0 (-1) (zI u) (zI pv) (zI (l.length : Int)) (zI (p : Int))) (f_Mo_run_27 N 256 gk gl (zI (n : Int)) 9 kinds 9 sizes 9 values 576 texts 4096 20200 64 fuel' dk dl 0 (zI (p : Int)) rix rfs rtw rwd rpr rcv rag (zI u) (zI (pv - 1)) pc sz fr pd fi mn pt) := by
    intro fuel fuel' p D pk pl dk dl u pv ix fs tw wd pr cv nx fd fc fg st za be we rix rfs rtw rwd rpr rcv rag pc sz fr pd fi mn pt hp a1 a2 a3 a4 a5
    subst hp
    obtain ⟨fu, rfl, -⟩ := fuelS a1
    obtain ⟨fu', rfl, -⟩ := fuelS a2
    have hC : f_DP_print_38 N 256 fk fl 4096 24 (zI (n : Int)) xk xv xs xtl xtk (fu + 1) pk pl ix fs tw wd pr cv nx fd fc fg st za be we 0 (-1) (zI u) (zI pv) (zI (l.length : Int)) (zI (l.length : Int)) = some (zI (D.length : Int), pk, pl, ix, fs, tw, wd, pr, cv, nx, fd, fc, fg, st, za, be, we, 0, -1, zI u, zI pv) := by
      rw [f_DP_print_38, if_pos (by rw [zI_le (by omega) (by omega) (by omega) (by omega)]; omega)]
      unfold f_DP_print_87
      rw [if_pos rfl, row_size a3, b1s]
    have hR : f_Mo_run_27 N 256 gk gl (zI (n : Int)) 9 kinds 9 sizes 9 values 576 texts 4096 20200 64 (fu' + 1) dk dl 0 (zI (l.length : Int)) rix rfs rtw rwd rpr rcv rag (zI u) (zI (pv - 1)) pc sz fr pd fi mn pt = some (-1, dk, dl, 0, zI (l.length : Int), rix, rfs, rtw, rwd, rpr, rcv, rag, zI u, zI (pv - 1), pc, sz, fr, pd, fi, mn, pt) := by
      rw [f_Mo_run_27, if_pos (by rw [h2.1, zI_le (by omega) (by omega) (by omega) (by omega)]; omega)]
    exact out_ok D hC hR a3 a5 rfl a4
  intro k
  induction k with
  | zero =>
    intro fuel fuel' p D pk pl dk dl u pv ix fs tw wd pr cv nx fd fc fg st za be we rix rfs rtw rwd rpr rcv rag pc sz fr pd fi mn pt a1 a2 a3 a4 a5 a6 a7 a8 a9 a10 a11
    exact hend fuel fuel' p D pk pl dk dl u pv ix fs tw wd pr cv nx fd fc fg st za be we rix rfs rtw rwd rpr rcv rag pc sz fr pd fi mn pt (by omega) (by omega) (by omega) a5 a6 a7
  | succ k ih =>
    intro fuel fuel' p D pk pl dk dl u pv ix fs tw wd pr cv nx fd fc fg st za be we rix rfs rtw rwd rpr rcv rag pc sz fr pd fi mn pt a1 a2 a3 a4 a5 a6 a7 a8 a9 a10 a11
    by_cases hp : p = l.length
    · exact hend fuel fuel' p D pk pl dk dl u pv ix fs tw wd pr cv nx fd fc fg st za be we rix rfs rtw rwd rpr rcv rag pc sz fr pd fi mn pt hp (by omega) (by omega) a5 a6 a7
    obtain ⟨fu, rfl, hfu⟩ := fuelS (show 0 < fuel by omega)
    obtain ⟨fu', rfl, hfu'⟩ := fuelS (show 0 < fuel' by omega)
    rw [f_DP_print_38, if_neg (by rw [zI_le (by omega) (by omega) (by omega) (by omega)]; omega), if_pos rfl, row_at (by decide) h1 hl (by omega) (by omega), b1s]
    rw [f_Mo_run_27, if_neg (show ¬ gl ≤ zI (p : Int) by rw [h2.1, zI_le (by omega) (by omega) (by omega) (by omega)]; omega), moHere hf h2 p (by omega), b1s]
    by_cases c37 : atL l (p : Int) = 37
    · rw [if_pos c37, if_pos c37]
      obtain ⟨z, hz, z1, z2, z3⟩ := at_z hf ((rNx l (p + 1) : Nat) : Int)
      obtain ⟨i1, i2, i3, w1, w2, q1, q2, x1, x2⟩ := rd_bd hf (p := p + 1) (by omega)
      have hix := rIx_ne hf (p := p + 1) (by omega)
      rw [show zI (p : Int) + 1 = zI ((p : Int) + 1) from zI_add _ 1, cast1 p, rd_ref hN hf h2 (p := p + 1) (by omega), b7s]
      unfold f_DP_runDirective
      rw [rd_class hN hf h1 (p := p) (by omega), b7s, hz]
      generalize rIx l (p + 1) = IX at i1 i2 hix ⊢
      generalize rFl l (p + 1) = FL
      generalize rTw l (p + 1) = TW at i3 ⊢
      generalize rWd l (p + 1) = WD at w1 w2 ⊢
      generalize rPr l (p + 1) = PR at q1 q2 ⊢
      generalize rNx l (p + 1) = NX at x1 x2 z3 hz ⊢
      have hmx : ((if zI (p : Int) < zI (NX : Int) then zI (NX : Int) else zI (p : Int)) + 1) = zI ((NX + 1 : Nat) : Int) := by
        rw [if_pos (by rw [zI_lt (by omega) (by omega) (by omega) (by omega)]; omega), show zI (NX : Int) + 1 = zI ((NX : Int) + 1) from zI_add _ 1, cast1 NX]
      have hfj := form_join (N := N) (args := zI (n : Int)) (kinds := kinds) (sizes := sizes) (values := values) (index := zI (if IX = -1 then 0 else IX)) hN z1 z2 FL TW w1 w2 q1 q2 rag (zI u) (zI (pv - 1))
      rcases hfj with ⟨r, b1, b2, b3, b4⟩ | ⟨b1, b2, ch, b3, b4, b5⟩
      · rw [b3, b1s, if_neg b2, if_neg b2, b4, b4s, if_neg b1]
        unfold f_DP_runDirective_80 f_DP_blame f_Directive_last
        rw [if_neg b2, b2s, b1s, b21s]
        obtain ⟨pl', e, r9⟩ := p38_bad (N := N) (l := l) (fk := fk) (fl := fl) (n := n) (xk := xk) (xv := xv) (xs := xs) (xtl := xtl) (xtk := xtk) a5 (zI IX) FL TW (zI WD) (zI PR) (zI z) (zI (NX : Int)) fd fc fg st za be we b2 (zI (p : Int)) (zI u) (zI pv) ((if zI (p : Int) < zI (NX : Int) then zI (NX : Int) else zI (p : Int)) + 1) (show 0 < fu by omega)
        exact out_bad e rfl r9 b2 b1
      have hNXl : NX < l.length := by
        by_cases g : NX < l.length
        · exact g
        · exact absurd (z3.mpr (by omega)) (by omega)
      have hpAt : pAt l NX = NX + 1 := by unfold pAt; rw [if_pos hNXl]
      rw [hpAt, b2, b1s, if_pos rfl]
      rcases b5 with ⟨b6, b7, b8⟩ | ⟨b6, b7, b8⟩
      · rw [b6, b1s, if_pos rfl, if_pos rfl, b8, b4s, if_pos (show (0 : Int32) ≤ 0 by decide)]
        obtain ⟨Q, Ql, QC, QR⟩ := compose_bare (N := N) (kinds := kinds) (sizes := sizes) (texts := texts) (values := values) hN b3 b4 b7 FL w1 w2 (zI PR) rag
        obtain ⟨k1, l1, t1, zz1, e1, r1'⟩ := QC pk pl D a5 a7
        obtain ⟨fl2, k2, l2, fr2, pd2, F2, m2, pt2, e2, r2'⟩ := QR pc fi mn pt
        rw [e1, b4s, fol r1', b1s, e2, b8s, List.length_append]
        unfold f_DP_runDirective_80 f_DP_blame f_Directive_last
        obtain ⟨g1, g2⟩ := run_120 hN (f_Mo_run_27 N 256 gk gl (zI (n : Int)) 9 kinds 9 sizes 9 values 576 texts 4096 20200 64 fu') r2' Ql a6 a7 0 (zI ((NX + 1 : Nat) : Int)) (zI (if IX = -1 then 0 else IX)) fl2 TW (zI WD) (zI PR) (zI z) rag (zI u) (zI (pv - 1)) fr2 pd2 F2 m2 pt2 (zI (p : Int))
        by_cases hq : D.length + Q.length ≤ 4096
        · obtain ⟨dk', dl', e3, r3⟩ := g1 hq
          rw [if_pos hq, if_pos rfl, b2s, b1s, b21s, hmx, e3]
          exact ih fu fu' (NX + 1) (D ++ Q) k1 l1 dk' dl' u pv _ _ _ _ _ _ _ _ _ _ _ _ _ _ _ _ _ _ _ _ _ _ _ _ _ _ _ _ (by omega) (by omega) (by omega) (by omega) r1' r3 (by rw [List.length_append]; exact hq) a8 (by omega) a10 a11
        · rw [if_neg hq, if_neg (show ¬ (12 : Int32) = 0 by decide), b2s, b1s, b21s, g2 hq]
          obtain ⟨pl', e, r9⟩ := p38_bad (N := N) (l := l) (fk := fk) (fl := fl) (n := n) (xk := xk) (xv := xv) (xs := xs) (xtl := xtl) (xtk := xtk) r1' (zI IX) FL TW (zI WD) (zI PR) (zI z) (zI (NX : Int)) fd fc fg t1 zz1 be we (show (12 : Int32) ≠ 0 by decide) (zI (p : Int)) (zI u) (zI pv) ((if zI (p : Int) < zI (NX : Int) then zI (NX : Int) else zI (p : Int)) + 1) (show 0 < fu by omega)
          exact out_bad e rfl r9 (by decide) (by decide)
      · obtain ⟨nu, u', n1, n2, u1, u2, c1, c2⟩ := choose_join (fl := FL) (u := u) (p := pv) (kinds := kinds) (sizes := sizes) (values := values) hix (by omega) a8 (by omega) a10 a11 (zI (n : Int)) ch
        rw [b6, b1s, if_neg n10, c1, b2s, numbered (cnt := (n : Int)) (by omega) (by omega) n1 n2, b1s, b8, c2]
        by_cases hnu : nu < 1 ∨ (n : Int) < nu
        · rw [if_pos hnu, oNs]
          have e9 : f_Mo_chosen_58 (zI (n : Int)) 9 kinds 9 sizes 9 values ch (zI (nu - 1)) (zI u') (zI (pv - 1)) = some (9, zI (nu - 1), zI u', zI (pv - 1)) := by
            unfold f_Mo_chosen_58
            by_cases g : nu < 1
            · rw [if_pos (by rw [zI_lit, zI_lt (by omega) (by omega) (by omega) (by omega)]; omega)]
            · rw [if_neg (by rw [zI_lit, zI_lt (by omega) (by omega) (by omega) (by omega)]; omega), if_neg (by rw [zI_lt (by omega) (by omega) (by omega) (by omega)]; omega)]
          unfold f_DP_faultOfArgument
          rw [e9, b4s, b1s, if_neg (show ¬ (9 : Int32) = 0 by decide), if_neg (show ¬ (9 : Int32) ≤ 0 by decide)]
          unfold f_DP_runDirective_80 f_DP_blame f_Directive_last
          rw [if_neg (show ¬ (9 : Int32) = 0 by decide), b2s, b1s, b21s]
          obtain ⟨pl', e, r9⟩ := p38_bad (N := N) (l := l) (fk := fk) (fl := fl) (n := n) (xk := xk) (xv := xv) (xs := xs) (xtl := xtl) (xtk := xtk) a5 (zI IX) FL TW (zI WD) (zI PR) (zI z) (zI (NX : Int)) fd fc fg st za be we (show (9 : Int32) ≠ 0 by decide) (zI (p : Int)) (zI u') (zI nu) ((if zI (p : Int) < zI (NX : Int) then zI (NX : Int) else zI (p : Int)) + 1) (show 0 < fu by omega)
          exact out_bad e rfl r9 (by decide) (by decide)
        · rw [if_neg hnu, oSs, if_pos (show (nu - 1).toNat < 9 by omega)]
          obtain ⟨a, ha⟩ : ∃ a : Nat, nu - 1 = (a : Int) := ⟨(nu - 1).toNat, by omega⟩
          have ha9 : a < 9 := by omega
          have han : a < n := by omega
          have hnu2 : nu = (a : Int) + 1 := by omega
          rw [ha, show ((a : Int)).toNat = a by omega]
          have hAa := hA a han
          obtain ⟨k1', k2', k3', -, k5', k6', -, -⟩ := id hAa
          rw [kdF_ref (sz := xs a) ha9 k1' k2' (fun h => (k6' h).1) b7 k3' (show (a : Int) < (n : Int) by omega) (by omega) (zI u') (zI (pv - 1)), b4s]
          unfold f_DP_faultOfArgument_A
          rw [b3, b1s, kdF_class (fun h => (k6' h).2) b7 k3', b1s, b1s]
          by_cases hkd : kdF ch (xk a) (xv a) (xs a) = 0
          · rw [hkd, if_pos rfl, if_pos (show (0 : Int32) ≤ 0 by decide)]
            obtain ⟨Q, Ql, QC, QR⟩ := compose_join (N := N) hN ha9 hAa b3 b4 (inC_or b7) (kdF_suit k5' b7 hkd) FL w1 w2 q1 q2
            obtain ⟨k1, l1, d1, y1, y2, y3, y4, y5, y6, e1, r1'⟩ := QC pk pl D fd fc fg be we a5 a7
            obtain ⟨fl2, k2, l2, fr2, pd2, F2, m2, pt2, e2, r2'⟩ := QR pc fi mn pt
            rw [e1, b9s, fol r1', b1s, e2, b8s, List.length_append]
            unfold f_DP_runDirective_80_2 f_DP_blame f_Directive_last
            obtain ⟨g1, g2⟩ := run_120 hN (f_Mo_run_27 N 256 gk gl (zI (n : Int)) 9 kinds 9 sizes 9 values 576 texts 4096 20200 64 fu') r2' Ql a6 a7 0 (zI ((NX + 1 : Nat) : Int)) (zI (if IX = -1 then 0 else IX)) fl2 TW (zI WD) (zI PR) (zI z) (zI (a : Int)) (zI u') (zI (a : Int)) fr2 pd2 F2 m2 pt2 (zI (p : Int))
            by_cases hq : D.length + Q.length ≤ 4096
            · obtain ⟨dk', dl', e3, r3⟩ := g1 hq
              rw [if_pos hq, if_pos rfl, b2s, b1s, b21s, hmx, e3, show zI (a : Int) = zI (nu - 1) by rw [ha]]
              exact ih fu fu' (NX + 1) (D ++ Q) k1 l1 dk' dl' u' nu _ _ _ _ _ _ _ _ _ _ _ _ _ _ _ _ _ _ _ _ _ _ _ _ _ _ _ _ (by omega) (by omega) (by omega) (by omega) r1' r3 (by rw [List.length_append]; exact hq) (by omega) (by omega) (by omega) (by omega)
            · rw [if_neg hq, if_neg (show ¬ (12 : Int32) = 0 by decide), b2s, b1s, b21s, g2 hq]
              obtain ⟨pl', e, r9⟩ := p38_bad (N := N) (l := l) (fk := fk) (fl := fl) (n := n) (xk := xk) (xv := xv) (xs := xs) (xtl := xtl) (xtk := xtk) r1' (zI IX) FL TW (zI WD) (zI PR) (zI z) (zI (NX : Int)) d1 y1 y2 y3 y4 y5 y6 (show (12 : Int32) ≠ 0 by decide) (zI (p : Int)) (zI u') (zI nu) ((if zI (p : Int) < zI (NX : Int) then zI (NX : Int) else zI (p : Int)) + 1) (show 0 < fu by omega)
              exact out_bad e rfl r9 (by decide) (by decide)
          · rw [if_neg hkd, if_neg (kdF_pos hkd)]
            unfold f_DP_runDirective_80_2 f_DP_blame f_Directive_last
            rw [if_neg hkd, b2s, b1s, b21s]
            obtain ⟨pl', e, r9⟩ := p38_bad (N := N) (l := l) (fk := fk) (fl := fl) (n := n) (xk := xk) (xv := xv) (xs := xs) (xtl := xtl) (xtk := xtk) a5 (zI IX) FL TW (zI WD) (zI PR) (zI z) (zI (NX : Int)) fd fc fg st za be we hkd (zI (p : Int)) (zI u') (zI nu) ((if zI (p : Int) < zI (NX : Int) then zI (NX : Int) else zI (p : Int)) + 1) (show 0 < fu by omega)
            exact out_bad e rfl r9 hkd (kdF_pos hkd)
    · rw [if_neg c37, if_neg c37]
      obtain ⟨z, hz, z1, z2, z3⟩ := at_z hf (p : Int)
      have hz0 : 0 ≤ z := by
        by_cases g : z = -1
        · exact absurd (z3.mp g) (by omega)
        · omega
      unfold f_DP_runCharacter
      rw [row_at (by decide) h1 hl (by omega) (by omega), b1s, hz, zI_c hz0 (by omega)]
      have hck := ck_z hz0 (show z < 65536 by omega)
      obtain ⟨k1, l1, e1, r1'⟩ := row_add (by decide) a5 hck (by omega)
      have r2' : rwL 20200 (upd pc (0 : Int32).toNatClampNeg (zI z)) 1 [zI z] := row_upd (n := 20200) (kept := pc) (l := []) (rw_nil pc) hck (by decide)
      rw [e1, b2s, fol r1', b1s, List.length_append, List.length_singleton, b1s, if_neg (show ¬ ((0 : Int32) < 0 ∨ 20200 ≤ (0 : Int32).toNatClampNeg) by decide), show zI (p : Int) + 1 = zI ((p : Int) + 1) from zI_add _ 1, cast1 p]
      unfold f_DP_blame
      obtain ⟨g1, g2⟩ := run_120 hN (f_Mo_run_27 N 256 gk gl (zI (n : Int)) 9 kinds 9 sizes 9 values 576 texts 4096 20200 64 fu') r2' (by simp) a6 a7 0 (zI ((p + 1 : Nat) : Int)) rix rfs rtw rwd rpr rcv rag (zI u) (zI (pv - 1)) fr pd fi mn pt (zI (p : Int))
      by_cases hq : D.length + 1 ≤ 4096
      · obtain ⟨dk', dl', e3, r3⟩ := g1 hq
        rw [if_pos hq, if_pos rfl, b2s, b4s, e3]
        exact ih fu fu' (p + 1) (D ++ [zI z]) k1 l1 dk' dl' u pv _ _ _ _ _ _ _ _ _ _ _ _ _ _ _ _ _ _ _ _ _ _ _ _ _ _ _ _ (by omega) (by omega) (by omega) (by omega) r1' r3 (by rw [List.length_append]; exact hq) a8 (by omega) a10 a11
      · rw [if_neg hq, if_neg (show ¬ (12 : Int32) = 0 by decide), b2s, b4s]
        obtain ⟨pl', e, r9⟩ := p38_bad (N := N) (l := l) (fk := fk) (fl := fl) (n := n) (xk := xk) (xv := xv) (xs := xs) (xtl := xtl) (xtk := xtk) r1' ix fs tw wd pr cv nx fd fc fg st za be we (show (12 : Int32) ≠ 0 by decide) (zI (p : Int)) (zI u) (zI pv) (zI ((p + 1 : Nat) : Int)) (show 0 < fu by omega)
        exact out_bad e (g2 hq) r9 (by decide) (by decide)
theorem print_43 {dk : Nat → Int32} {dl : Int32} {D : List Int32} (hD : rwL 4096 dk dl D) (hDl : D.length ≤ 4096) (th pr f pla at_ : Int32) (rix : Int32) (rfs : Int32) (rtw : Int32) (rwd : Int32) (rpr : Int32) (rcv : Int32) (rag : Int32) (nx2 lt : Int32) (pc : Nat → Int32) (sz : Int32) (fr : Int32) (pd : Int32) (fi : Nat → Int32) (mn : Int32) (pt : Int32) : ∀ (k fuel i : Nat) (mp : Nat → Int32), i + k = D.length → k < fuel → ∃ mp' : Nat → Int32, f_Mo_print_43 4096 4096 fuel th mp pr dk dl f pla at_ rix rfs rtw rwd rpr rcv rag nx2 lt pc sz fr pd fi mn pt (zI (i : Int)) = some (pr, th, mp', pr, dk, dl, f, pla, at_, rix, rfs, rtw, rwd, rpr, rcv, rag, nx2, lt, pc, sz, fr, pd, fi, mn, pt) ∧ ∀ j : Nat, j < D.length → mp' j = if j < i then mp j else dk j := by
  obtain ⟨hs, -, hk⟩ := hD
  subst hs
  intro k
  induction k with
  | zero =>
    intro fuel i mp h1 h2
    obtain ⟨fu, rfl, -⟩ := fuelS h2
    rw [f_Mo_print_43, if_pos (by rw [zI_le (by omega) (by omega) (by omega) (by omega)]; omega)]
    exact ⟨mp, rfl, fun j hj => by rw [if_pos (by omega)]⟩
  | succ k ih =>
    intro fuel i mp h1 h2
    obtain ⟨fu, rfl, hfu⟩ := fuelS h2
    rw [f_Mo_print_43, if_neg (by rw [zI_le (by omega) (by omega) (by omega) (by omega)]; omega), zI_nat (by omega) (by omega), if_neg (by rw [zI_lit, zI_lt (by omega) (by omega) (by omega) (by omega)]; omega), if_neg (by rw [zI_lit, zI_lt (by omega) (by omega) (by omega) (by omega)]; omega), show ((i : Int)).toNat = i by omega, show zI (i : Int) + 1 = zI ((i : Int) + 1) from zI_add _ 1, cast1 i]
    obtain ⟨mp', e, hmp⟩ := ih fu (i + 1) (upd mp i (dk i)) (by omega) (by omega)
    refine ⟨mp', e, fun j hj => ?_⟩
    rw [hmp j hj]
    by_cases q : j = i
    · subst q
      rw [if_pos (by omega), if_neg (by omega), upd_same]
    · by_cases q2 : j < i
      · rw [if_pos (by omega), if_pos q2, upd_ne _ _ q]
      · rw [if_neg (by omega), if_neg q2]
abbrev TP := Int32 × Int32 × (Nat → Int32) × Int32 × (Nat → Int32) × Int32 × Int32 × Int32 × Int32 × Int32 × Int32 × Int32 × Int32 × Int32 × Int32 × Int32 × Int32 × Int32 × (Nat → Int32) × Int32 × Int32 × Int32 × (Nat → Int32) × Int32 × Int32
def good2 : TC → TP → Prop
  | (ret, pk, pl, _, _, _, _, _, _, _, _, _, _, _, _, _, _, f, pla, _, _), (ret2, _, mp, mpr, _, _, f2, pla2, _, _, _, _, _, _, _, _, _, _, _, _, _, _, _, _, _) => ret = ret2 ∧ f = f2 ∧ pla = pla2 ∧ ∃ D : List Int32, rwL 4096 pk pl D ∧ D.length ≤ 4096 ∧ rwL 4096 mp mpr D
theorem print_join (hN : 1000000 < N) (hf : fmt l) (h1 : rwL 256 fk fl l) (h2 : rwL 256 gk gl l) (hn : n ≤ 9) (hA : ∀ q, q < n → argOK (xk q) (xv q) (xs q) (xtk q) (xtl q) (kinds q) (values q) (sizes q) texts q) {pk : Nat → Int32} {pl : Int32} {D0 : List Int32} (h3 : rwL 4096 pk pl D0) (ix : Int32) (fs : Int32) (tw : Int32) (wd : Int32) (pr : Int32) (cv : Int32) (nx : Int32) (fd : Nat → Int32) (fc : Int32) (fg : Int32) (st : Int32) (za : Int32) (be : Int32) (we : Int32) (mp : Nat → Int32) (mpr : Int32) (dk : Nat → Int32) (rix : Int32) (rfs : Int32) (rtw : Int32) (rwd : Int32) (rpr : Int32) (rcv : Int32) (rag : Int32) (pc : Nat → Int32) (sz : Int32) (fr : Int32) (pd : Int32) (fi : Nat → Int32) (mn : Int32) (pt : Int32) : ∃ (x : TC) (y : TP), f_DP_print N 256 fk fl 4096 pk pl ix fs tw wd pr cv nx 24 fd fc fg st za be we (zI (n : Int)) xk xv xs xtl xtk = some x ∧ f_Mo_print N 256 gk gl (zI (n : Int)) 9 kinds 9 sizes 9 values 576 texts 4096 mp mpr 4096 dk rix rfs rtw rwd rpr rcv rag 20200 pc sz fr pd 64 fi mn pt = some y ∧ good2 x y := by
  have hl := hf.1
  obtain ⟨l', e, r⟩ := row_cut h3 (s := 0) (by omega) (by omega)
  rw [show zI 0 = (0 : Int32) from rfl] at e
  have hj := run_join (N := N) hN hf h1 h2 hn hA l.length N N 0 [] pk l' dk 0 0 0 ix fs tw wd pr cv nx fd fc fg st za be we rix rfs rtw rwd rpr rcv rag pc sz fr pd fi mn pt (by omega) (by omega) (by omega) (by omega) r (rw_nil dk) (by decide) (by omega) (by omega) (by omega) (by omega)
  obtain ⟨⟨ret, pk2, pl2, ix1, fs1, tw1, wd1, pr1, cv1, nx1, fd1, fc1, fg1, st1, za1, be1, we1, f1, pla1, un1, pa1⟩, ⟨pla2, dk2, dl2, f2, at2, rix1, rfs1, rtw1, rwd1, rpr1, rcv1, rag1, nx2, lt2, pc1, sz1, fr1, pd1, fi1, mn1, pt1⟩, eC, eR, D, g1, g2, g3, g4, g5⟩ := hj
  subst g3 g4
  have hC : f_DP_print N 256 fk fl 4096 pk pl ix fs tw wd pr cv nx 24 fd fc fg st za be we (zI (n : Int)) xk xv xs xtl xtk = some (ret, pk2, pl2, ix1, fs1, tw1, wd1, pr1, cv1, nx1, fd1, fc1, fg1, st1, za1, be1, we1, f1, pla1, un1, pa1) := by
    unfold f_DP_print
    rw [e, b1s, row_size h1, b1s]
    exact eC
  have hrun : f_Mo_run N 256 gk gl (zI (n : Int)) 9 kinds 9 sizes 9 values 576 texts 4096 dk rix rfs rtw rwd rpr rcv rag 20200 pc sz fr pd 64 fi mn pt = some (pla1, dk2, dl2, f1, at2, rix1, rfs1, rtw1, rwd1, rpr1, rcv1, rag1, nx2, lt2, pc1, sz1, fr1, pd1, fi1, mn1, pt1) := eR
  rcases g5 with ⟨q1, q2, q3⟩ | ⟨q1, q2, q3, q4⟩
  · subst q1
    obtain ⟨mp', e43, hmp⟩ := print_43 q3 g2 0 dl2 0 pla1 at2 rix1 rfs1 rtw1 rwd1 rpr1 rcv1 rag1 nx2 lt2 pc1 sz1 fr1 pd1 fi1 mn1 pt1 D.length N 0 mp (by omega) (by omega)
    have hR : f_Mo_print N 256 gk gl (zI (n : Int)) 9 kinds 9 sizes 9 values 576 texts 4096 mp mpr 4096 dk rix rfs rtw rwd rpr rcv rag 20200 pc sz fr pd 64 fi mn pt = some (dl2, 0, mp', dl2, dk2, dl2, 0, pla1, at2, rix1, rfs1, rtw1, rwd1, rpr1, rcv1, rag1, nx2, lt2, pc1, sz1, fr1, pd1, fi1, mn1, pt1) := by
      unfold f_Mo_print f_Mo_print_29
      rw [hrun, b21s, if_pos (show (0 : Int32) ≤ 0 by decide), if_pos (show (0 : Int32) ≤ 0 by decide)]
      exact e43
    refine ⟨_, _, hC, hR, q2.trans q3.1.symm, rfl, rfl, D, g1, g2, q3.1, q3.2.1, fun j c hj => ?_⟩
    have h9 := q3.2.2 j c hj
    have hjl : j < D.length := (List.getElem?_eq_some_iff.mp hj).1
    refine ⟨h9.1, fun hn => ?_⟩
    rw [hmp j hjl, if_neg (by omega)]
    exact h9.2 hn
  · have hR : f_Mo_print N 256 gk gl (zI (n : Int)) 9 kinds 9 sizes 9 values 576 texts 4096 mp mpr 4096 dk rix rfs rtw rwd rpr rcv rag 20200 pc sz fr pd 64 fi mn pt = some (-1, 0, mp, 0, dk2, dl2, f1, pla1, at2, rix1, rfs1, rtw1, rwd1, rpr1, rcv1, rag1, nx2, lt2, pc1, sz1, fr1, pd1, fi1, mn1, pt1) := by
      unfold f_Mo_print f_Mo_print_29
      rw [hrun, b21s, if_neg q2, if_neg q2]
    subst q4
    exact ⟨_, _, hC, hR, q3, rfl, rfl, [], g1, g2, rw_nil mp⟩
end PUprint
