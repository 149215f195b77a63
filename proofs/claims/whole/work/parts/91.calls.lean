section PUcalls
def INV (fk : Nat → Int32) (fl : Int32) (pk : Nat → Int32) (pl : Int32) (cnt : Int32) (lf : Int32) (lp : Int32) (gk : Nat → Int32) (gl : Int32) (args : Int32) (kinds : Nat → Int32) (sizes : Nat → Int32) (values : Nat → Int64) (texts : Nat → Int32) (mp : Nat → Int32) (mpr : Int32) (mf : Int32) (mpl : Int32) (xk : Nat → Nat) (xv : Nat → Int64) (xs : Nat → Int32) (xtl : Nat → Int32) (xtk : Nat → Nat → Int32) : Prop := ∃ (l D : List Int32) (n : Nat), fmt l ∧ rwL 256 fk fl l ∧ rwL 256 gk gl l ∧ rwL 4096 pk pl D ∧ D.length ≤ 4096 ∧ rwL 4096 mp mpr D ∧ lf = mf ∧ lp = mpl ∧ n ≤ 9 ∧ cnt = zI (n : Int) ∧ args = zI (n : Int) ∧ mm_k9 xk = true ∧ (∀ q, q < 9 → ∃ tl : List Int32, rwL 64 (xtk q) (xtl q) tl) ∧ ∀ q, q < n → argOK (xk q) (xv q) (xs q) (xtk q) (xtl q) (kinds q) (values q) (sizes q) texts q
theorem fmt_nil : fmt [] := ⟨by decide, fun j c hj => by cases hj⟩
theorem tSs {δ : Type} (u : Unit) (a b : Option δ) : mm_t (some u) a b = a := rfl
theorem tNs {δ : Type} (a b : Option δ) : mm_t none a b = b := rfl
theorem updL_same (f : Nat → Int64) (k : Nat) (x : Int64) : vp_updL f k x k = x := by simp [vp_updL]
theorem updL_ne (f : Nat → Int64) {k j : Nat} (x : Int64) (h : j ≠ k) : vp_updL f k x j = f j := by simp [vp_updL, h]
theorem g0 : ¬ ((0 : Int32) < 0 ∨ 1 ≤ (0 : Int32).toNatClampNeg) := by decide
theorem gx1 {L x : Nat} (hx : x + 4 ≤ L) (hL : L ≤ 2048) : ¬ (zI (x : Int) + (1 : Int32) < 0 ∨ L ≤ (zI (x : Int) + (1 : Int32)).toNatClampNeg) := by
  rw [zI_lit, zI_lit, zI_add, zI_nat (by omega) (by omega), zI_lt (by omega) (by omega) (by omega) (by omega)]
  omega
theorem gx2 {L x : Nat} (hx : x + 4 ≤ L) (hL : L ≤ 2048) : ¬ (zI (x : Int) + (2 : Int32) < 0 ∨ L ≤ (zI (x : Int) + (2 : Int32)).toNatClampNeg) := by
  rw [zI_lit, zI_lit, zI_add, zI_nat (by omega) (by omega), zI_lt (by omega) (by omega) (by omega) (by omega)]
  omega
theorem gx3 {L x : Nat} (hx : x + 4 ≤ L) (hL : L ≤ 2048) : ¬ (zI (x : Int) + (3 : Int32) < 0 ∨ L ≤ (zI (x : Int) + (3 : Int32)).toNatClampNeg) := by
  rw [zI_lit, zI_lit, zI_add, zI_nat (by omega) (by omega), zI_lt (by omega) (by omega) (by omega) (by omega)]
  omega
variable {n : Nat} {xk : Nat → Nat} {xv : Nat → Int64} {xs xtl : Nat → Int32} {xtk : Nat → Nat → Int32} {kinds sizes texts : Nat → Int32} {values : Nat → Int64}
theorem k9_add {kd : Nat} (h : mm_k9 xk = true) (hk : kd ≤ 5) : mm_k9 (va_up xk n kd) = true := by
  unfold mm_k9
  rw [List.all_eq_true]
  intro q hq
  apply decide_eq_true
  by_cases e : q = n
  · rw [e, va_up_self]; omega
  · rw [va_up_ne _ _ e]
    exact mm_k9_ok h q (List.mem_range.mp hq)
theorem enter_join (hn : n ≤ 9) (kd : Nat) (vl : Int64) (so rk rs : Int32) : (n = 9 ∧ f_DP_addArgument (zI (n : Int)) kd vl so xk xv xs = some (-1, zI (n : Int), xk, xv, xs) ∧ f_Mo_enter (zI (n : Int)) 9 kinds 9 sizes 9 values rk rs vl = some (-1, 0, zI (n : Int), kinds, sizes, values)) ∨ (n < 9 ∧ f_DP_addArgument (zI (n : Int)) kd vl so xk xv xs = some (zI ((n + 1 : Nat) : Int), zI ((n + 1 : Nat) : Int), va_up xk n kd, va_up xv n vl, va_up xs n so) ∧ f_Mo_enter (zI (n : Int)) 9 kinds 9 sizes 9 values rk rs vl = some (zI ((n + 1 : Nat) : Int), 0, zI ((n + 1 : Nat) : Int), upd kinds n rk, upd sizes n rs, vp_updL values n vl)) := by
  unfold f_DP_addArgument f_Mo_enter
  rw [show nI 9 = zI 9 from rfl, show (9 : Int32) = zI 9 from rfl]
  by_cases q : n = 9
  · refine Or.inl ⟨q, ?_, ?_⟩
    · rw [if_neg (by rw [zI_lit, zI_lt (by omega) (by omega) (by omega) (by omega)]; omega), if_neg (by rw [zI_lt (by omega) (by omega) (by omega) (by omega)]; omega)]
    · rw [if_pos (by rw [zI_eq (by omega) (by omega) (by omega) (by omega)]; omega)]
  · have hg : ¬ (zI (n : Int) < 0 ∨ 9 ≤ (zI (n : Int)).toNatClampNeg) := aok (by omega)
    have e1 : zI (n : Int) + 1 = zI ((n + 1 : Nat) : Int) := by rw [← cast1 n]; exact zI_add _ 1
    refine Or.inr ⟨by omega, ?_, ?_⟩
    · rw [if_neg (by rw [zI_lit, zI_lt (by omega) (by omega) (by omega) (by omega)]; omega), if_pos (by rw [zI_lt (by omega) (by omega) (by omega) (by omega)]; omega), if_neg hg, anat (by omega), e1]
    · rw [if_neg (by rw [zI_eq (by omega) (by omega) (by omega) (by omega)]; omega), if_neg hg, if_neg hg, if_neg hg, anat (by omega), e1]
theorem args_add {kd : Nat} {vl : Int64} {so rk rs : Int32} (hA : ∀ q, q < n → argOK (xk q) (xv q) (xs q) (xtk q) (xtl q) (kinds q) (values q) (sizes q) texts q) (h : argOK kd vl so (xtk n) (xtl n) rk vl rs texts n) : ∀ q, q < n + 1 → argOK (va_up xk n kd q) (va_up xv n vl q) (va_up xs n so q) (xtk q) (xtl q) (upd kinds n rk q) (vp_updL values n vl q) (upd sizes n rs q) texts q := by
  intro q hq
  by_cases e : q = n
  · subst e
    rw [va_up_self, va_up_self, va_up_self, upd_same, upd_same, updL_same]
    exact h
  · rw [va_up_ne _ _ e, va_up_ne _ _ e, va_up_ne _ _ e, upd_ne _ _ e, upd_ne _ _ e, updL_ne _ _ e]
    exact hA q (by omega)
theorem arg0 (tk : Nat → Int32) (tl : Int32) (tx : Nat → Int32) (a : Nat) : argOK 0 0 0 tk tl 0 0 0 tx a :=
  ⟨rfl, rfl, by decide, fun h => absurd h (by decide), fun h => absurd h (by decide), fun h => absurd h (by decide), fun h => absurd h (by decide), fun h => absurd h (by decide)⟩
theorem arg1 {v : Int64} (hv : v = 0 ∨ v = 1) (tk : Nat → Int32) (tl : Int32) (tx : Nat → Int32) (a : Nat) : argOK 1 v 0 tk tl 1 v 0 tx a :=
  ⟨rfl, rfl, by decide, fun _ => hv, fun h => absurd h (by decide), fun h => absurd h (by decide), fun h => absurd h (by decide), fun h => absurd h (by decide)⟩
theorem arg2 {v : Int64} (hv : 0 ≤ v.toInt ∧ v.toInt ≤ 255) (tk : Nat → Int32) (tl : Int32) (tx : Nat → Int32) (a : Nat) : argOK 2 v 0 tk tl 2 v 0 tx a :=
  ⟨rfl, rfl, by decide, fun h => absurd h (by decide), fun _ => hv, fun h => absurd h (by decide), fun h => absurd h (by decide), fun h => absurd h (by decide)⟩
theorem arg3 {v : Int64} {sz : Int32} (hs : sz = 8 ∨ sz = 16 ∨ sz = 32 ∨ sz = 64) (tk : Nat → Int32) (tl : Int32) (tx : Nat → Int32) (a : Nat) : argOK 3 v sz tk tl 3 v sz tx a :=
  ⟨rfl, rfl, by decide, fun h => absurd h (by decide), fun h => absurd h (by decide), fun _ => ⟨rfl, hs⟩, fun h => absurd h (by decide), fun h => absurd h (by decide)⟩
theorem arg5 {v : Int64} {s : Int} (s1 : 0 ≤ s) (s2 : s ≤ 40) (tk : Nat → Int32) (tl : Int32) (tx : Nat → Int32) (a : Nat) : argOK 5 v (zI s) tk tl 5 v (zI s) tx a :=
  ⟨rfl, rfl, by decide, fun h => absurd h (by decide), fun h => absurd h (by decide), fun h => absurd h (by decide), fun _ => ⟨rfl, s, rfl, s1, s2⟩, fun h => absurd h (by decide)⟩
theorem lr_lu (cs : Int64) (i : Nat) (hi : i < 8) : (mm_lr cs ((8 : Int32) * zI (i : Int))) &&& (255 : Int64) = (mm_lu cs ((8 : Int32) * zI (i : Int))) &&& (255 : Int64) := by
  have e1 : ∀ i : Nat, i < 8 → (((((8 : Int32) * zI (i : Int)).toInt64 &&& 63).toBitVec.smod 64).toNat = 8 * i) := by decide +kernel
  have e2 : ∀ i : Nat, i < 8 → (((((8 : Int32) * zI (i : Int)).toInt64.toUInt64 &&& Int64.toUInt64 63).toBitVec % 64).toNat = 8 * i) := by decide +kernel
  apply Int64.toBitVec_inj.mp
  have h1 : (mm_lr cs ((8 : Int32) * zI (i : Int))).toBitVec = cs.toBitVec.sshiftRight (8 * i) := by
    unfold mm_lr
    rw [Int64.toBitVec_shiftRight]
    show cs.toBitVec.sshiftRight _ = _
    rw [e1 i hi]
  have h2 : (mm_lu cs ((8 : Int32) * zI (i : Int))).toBitVec = cs.toBitVec >>> (8 * i) := by
    unfold mm_lu
    show (cs.toUInt64 >>> _).toBitVec = _
    rw [UInt64.toBitVec_shiftRight]
    show cs.toBitVec >>> (BitVec.toNat _) = _
    rw [e2 i hi]
  rw [Int64.toBitVec_and, Int64.toBitVec_and, h1, h2]
  apply BitVec.eq_of_getLsbD_eq
  intro j hj
  rw [BitVec.getLsbD_and, BitVec.getLsbD_and, BitVec.getLsbD_sshiftRight, BitVec.getLsbD_ushiftRight]
  by_cases q : j < 8
  · rw [if_pos (by omega)]
    simp [show ¬ 64 ≤ j by omega]
  · have h255 : ∀ j : Nat, j < 64 → ¬ j < 8 → (Int64.toBitVec 255).getLsbD j = false := by decide +kernel
    rw [h255 j hj q, Bool.and_false, Bool.and_false]
theorem byte_ok (cs : Int64) {i : Nat} (hi : i < 8) : ∃ z : Int, 0 ≤ z ∧ z < 256 ∧ mm_c (((mm_lu cs ((8 : Int32) * zI (i : Int))) &&& (255 : Int64)).toInt32) = zI z ∧ ((mm_lr cs ((8 : Int32) * zI (i : Int))) &&& (255 : Int64)).toInt32 = zI z := by
  obtain ⟨R, hR, hRc⟩ := zJ_un cs
  have e2 : ∀ i : Nat, i < 8 → (((8 : Int32) * zI (i : Int)).toInt64.toUInt64 &&& Int64.toUInt64 63) = UInt64.ofNat (8 * i) := by decide +kernel
  have h1 : (mm_lu cs ((8 : Int32) * zI (i : Int))) &&& (255 : Int64) = zJ ((R / 2 ^ (8 * i) % 256 : Nat) : Int) := by
    rw [hRc, lu_z hR (s := 8 * i) (e2 i hi) (by omega)]
    exact and_z (s := 8) (Nat.lt_of_le_of_lt (Nat.div_le_self _ _) hR) (by omega)
  generalize R / 2 ^ (8 * i) = M at h1
  refine ⟨((M % 256 : Nat) : Int), by omega, by omega, ?_, ?_⟩
  · rw [h1, zJ_I (by omega) (by omega), zI_c (by omega) (by omega)]
  · rw [lr_lu cs i hi, h1, zJ_I (by omega) (by omega)]
theorem fmt_add {l : List Int32} (h : fmt l) {z : Int} (z1 : 0 ≤ z) (z2 : z < 256) (hl : l.length < 256) : fmt (l ++ [zI z]) := by
  refine ⟨by rw [List.length_append, List.length_singleton]; omega, fun j c hj => ?_⟩
  by_cases q : j < l.length
  · rw [List.getElem?_append_left q] at hj
    exact h.2 j c hj
  · rw [List.getElem?_append_right (by omega)] at hj
    have hj2 : j - l.length = 0 := by
      have := (List.getElem?_eq_some_iff.mp hj).1
      simp at this
      omega
    rw [hj2] at hj
    cases hj
    exact ⟨z, rfl, z1, z2⟩
theorem write_loop {m : Nat} (hm : m ≤ 8) (cs : Int64) : ∀ (k fuel fuel' i : Nat) (l : List Int32) (fk : Nat → Int32) (fl : Int32) (gk : Nat → Int32) (gl : Int32), i + k = m → k < fuel → k < fuel' → l.length + k ≤ 256 → fmt l → rwL 256 fk fl l → rwL 256 gk gl l → ∃ (l' : List Int32) (fk' : Nat → Int32) (fl' : Int32) (gk' : Nat → Int32) (gl' : Int32), f_DP_write_41 256 (zI (m : Int)) cs fuel fk fl (zI (i : Int)) = some (zI (l'.length : Int), fk', fl') ∧ f_Mo_write_46 256 (zI (m : Int)) cs fuel' 0 gk gl (zI (i : Int)) = some (zI (l'.length : Int), 0, gk', gl') ∧ fmt l' ∧ rwL 256 fk' fl' l' ∧ rwL 256 gk' gl' l' := by
  intro k
  induction k with
  | zero =>
    intro fuel fuel' i l fk fl gk gl h1 h2 h3 h4 h5 h6 h7
    obtain ⟨fu, rfl, -⟩ := fuelS h2
    obtain ⟨fu', rfl, -⟩ := fuelS h3
    rw [f_DP_write_41, f_Mo_write_46, if_pos (by rw [zI_le (by omega) (by omega) (by omega) (by omega)]; omega), if_pos (by rw [zI_le (by omega) (by omega) (by omega) (by omega)]; omega), row_size h6, b1s]
    exact ⟨l, fk, fl, gk, gl, rfl, by rw [h7.1], h5, h6, h7⟩
  | succ k ih =>
    intro fuel fuel' i l fk fl gk gl h1 h2 h3 h4 h5 h6 h7
    obtain ⟨fu, rfl, hfu⟩ := fuelS h2
    obtain ⟨fu', rfl, hfu'⟩ := fuelS h3
    obtain ⟨z, z1, z2, z3, z4⟩ := byte_ok cs (i := i) (by omega)
    have hck := ck_z z1 (show z < 65536 by omega)
    obtain ⟨k1, l1, e1, r1⟩ := row_add (by decide) h6 hck (by omega)
    have r2 := row_upd h7 hck (by omega)
    obtain ⟨l', fk', fl', gk', gl', y1, y2, y3, y4, y5⟩ := ih fu fu' (i + 1) (l ++ [zI z]) k1 l1 _ _ (by omega) (by omega) (by omega) (by rw [List.length_append, List.length_singleton]; omega) (fmt_add h5 z1 z2 (by omega)) r1 r2
    rw [f_DP_write_41, f_Mo_write_46, if_neg (by rw [zI_le (by omega) (by omega) (by omega) (by omega)]; omega), if_neg (by rw [zI_le (by omega) (by omega) (by omega) (by omega)]; omega), z3, z4, e1, b2s, show zI (i : Int) + 1 = zI ((i : Int) + 1) from zI_add _ 1, cast1 i, y1, h7.1, zI_nat (by omega) (by omega), if_neg (by rw [zI_lit, zI_lt (by omega) (by omega) (by omega) (by omega)]; omega), show ((l.length : Int)).toNat = l.length by omega, show zI (l.length : Int) + 1 = zI ((l.length : Int) + 1) from zI_add _ 1, y2]
    exact ⟨l', fk', fl', gk', gl', rfl, rfl, y3, y4, y5⟩
theorem text_33 {gk : Nat → Int32} {len : Nat} (hl : len ≤ 64) {a : Nat} (ha : a < 9) (th args : Int32) (kinds sizes : Nat → Int32) (values : Nat → Int64) : ∀ (k fuel i : Nat) (tx : Nat → Int32), i + k = len → k < fuel → ∃ tx' : Nat → Int32, f_Mo_text_33 256 gk 576 fuel th (zI (len : Int)) args kinds sizes values tx (zI ((a + 1 : Nat) : Int)) (zI (i : Int)) = some (zI ((a + 1 : Nat) : Int), th, 0, args, kinds, sizes, values, tx') ∧ (∀ j : Nat, i ≤ j → j < len → tx' (64 * a + j) = gk j) ∧ (∀ j : Nat, j < 64 * a + i → tx' j = tx j) := by
  intro k
  induction k with
  | zero =>
    intro fuel i tx h1 h2
    obtain ⟨fu, rfl, -⟩ := fuelS h2
    rw [f_Mo_text_33, if_pos (by rw [zI_le (by omega) (by omega) (by omega) (by omega)]; omega)]
    exact ⟨tx, rfl, fun j hj1 hj2 => absurd hj1 (by omega), fun j hj => rfl⟩
  | succ k ih =>
    intro fuel i tx h1 h2
    obtain ⟨fu, rfl, hfu⟩ := fuelS h2
    have e0 : (64 : Int32) * (zI ((a + 1 : Nat) : Int) - 1) + zI (i : Int) = zI (64 * (a : Int) + (i : Int)) := by
      rw [zI_lit, zI_lit, zI_sub, zI_mul, zI_add]
      congr 1
      omega
    obtain ⟨tx', e, t1, t2⟩ := ih fu (i + 1) (upd tx (64 * a + i) (gk i)) (by omega) (by omega)
    rw [f_Mo_text_33, if_neg (by rw [zI_le (by omega) (by omega) (by omega) (by omega)]; omega), e0, zI_nat (by omega) (by omega), zI_nat (by omega) (by omega), if_neg (by rw [zI_lit, zI_lt (by omega) (by omega) (by omega) (by omega)]; omega), if_neg (by rw [zI_lit, zI_lt (by omega) (by omega) (by omega) (by omega)]; omega), show (64 * (a : Int) + (i : Int)).toNat = 64 * a + i by omega, show ((i : Int)).toNat = i by omega, show zI (i : Int) + 1 = zI ((i : Int) + 1) from zI_add _ 1, cast1 i, e]
    refine ⟨tx', rfl, fun j hj1 hj2 => ?_, fun j hj => ?_⟩
    · by_cases q : j = i
      · subst q
        rw [t2 _ (by omega), upd_same]
      · exact t1 j (by omega) hj2
    · rw [t2 j (by omega), upd_ne _ _ (by omega)]
end PUcalls
