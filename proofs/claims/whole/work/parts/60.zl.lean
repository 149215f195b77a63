/-! what stays beside the cells, at the law's start: it is there, and it stays -/
section MMzl
def zL (ad adK adV : Nat → Nat) (A : Nat → Prop) (U : State) (H : Heap) : Prop := zz ad adK adV A U H ∧ zt A U H ∧ va_AO "DirectivePrinter$Argument" U
def isFN : Cond → Bool
  | .fieldLinkNest _ _ _ _ _ _ => true
  | _ => false
def isCD : Cond → Bool
  | .castable _ _ => true
  | .declares _ => true
  | _ => false
theorem zN_fn : ∀ w ∈ zN, isFN w = true := by decide +kernel
theorem tW_cd : ∀ w ∈ tW, isCD w = true := by decide +kernel
theorem zN_on : ∀ w ∈ zN, w.onTables = true := by decide +kernel
theorem isFN_warm {w : Cond} {s U : State} (hf : isFN w = true) (hW : s.WarmedH U.vm) (h : va_Nw w s) : va_Nw w U := by
  unfold isFN at hf
  split at hf
  · exact va_Nw.warmF hW h
  · cases hf
theorem isCD_warm {w : Cond} {s U : State} (hf : isCD w = true) (hW : s.WarmedH U.vm) (h : va_Nw w s) : va_Nw w U := by
  unfold isCD at hf
  split at hf
  · exact va_Nw.warmC hW h
  · exact va_Nw.warmD hW h
  · cases hf
theorem zL_ok (ad adK adV : Nat → Nat) : mm_Zx (zL ad adK adV) ad adK adV := by
  refine ⟨⟨?_, ?_, ?_, ?_⟩, fun A U H h => h.1⟩
  · intro A u U H hW h
    obtain ⟨⟨h1, h2, h3, h4, h5, h6⟩, ⟨h7, h8, h9⟩, h10⟩ := h
    exact ⟨⟨fun w hw => isFN_warm (zN_fn w hw) hW (h1 w hw), va_En.moved hW.alike h2, vk_S.moved hW.alike h3, fun i hi => vk_R.warm hW (h4 i hi), va_Z.moved hW.alike h5, va_Zq.moved hW.alike h6⟩,
      ⟨fun w hw => isCD_warm (tW_cd w hw) hW (h7 w hw), zs.moved hW.alike h8, zs.moved hW.alike h9⟩, va_AO.moved hW.alike h10⟩
  · intro A U H H1 h hq
    obtain ⟨⟨h1, h2, h3, h4, h5, h6⟩, ⟨h7, h8, h9⟩, h10⟩ := h
    exact ⟨⟨h1, h2.kept hq, h3.kept hq, h4, h5.kept hq, h6.kept hq⟩, ⟨h7, h8.kept hq, h9.kept hq⟩, h10⟩
  · intro A B U H h hq
    obtain ⟨⟨h1, h2, h3, h4, h5, h6⟩, ⟨h7, h8, h9⟩, h10⟩ := h
    exact ⟨⟨h1, h2.narrow hq, h3.narrow hq, h4, h5.narrow hq, h6.narrow hq⟩, ⟨h7, h8.narrow hq, h9.narrow hq⟩, h10⟩
  · intro A U g mk a H h
    obtain ⟨⟨h1, h2, h3, h4, h5, h6⟩, ⟨h7, h8, h9⟩, h10⟩ := h
    exact ⟨⟨fun w hw => va_Nw.same (u := U) (zN_on w hw) rfl (h1 w hw), va_En.moved (u := U) (Vm.Alike.refl U.vm) h2, vk_S.moved (u := U) (Vm.Alike.refl U.vm) h3, fun i hi => vk_R.same (u := U) rfl (h4 i hi), va_Z.moved (u := U) (Vm.Alike.refl U.vm) h5, va_Zq.moved (u := U) (Vm.Alike.refl U.vm) h6⟩,
      ⟨fun w hw => va_Nw.same (u := U) (tW_on w hw) rfl (h7 w hw), zs.moved (u := U) (Vm.Alike.refl U.vm) h8, zs.moved (u := U) (Vm.Alike.refl U.vm) h9⟩, va_AO.moved (u := U) (Vm.Alike.refl U.vm) h10⟩
theorem zL_t (ad adK adV : Nat → Nat) : ∀ (A : Nat → Prop) (U : State) (H : Heap), zL ad adK adV A U H → zt A U H := fun _ _ _ h => h.2.1
theorem zL_q (ad adK adV : Nat → Nat) : ∀ (A : Nat → Prop) (U : State) (H : Heap), zL ad adK adV A U H → va_AO "DirectivePrinter$Argument" U := fun _ _ _ h => h.2.2
/-! at the start -/
abbrev flG : List Cond := flatC (Jvm.Cond.and given_1 narrow_1)
abbrev kNm : List String := ["NOTHING", "TRUTH", "CHARACTER", "WHOLE", "TEXT", "DECIMAL"]
abbrev kE : String := "DirectivePrinter$Kind"
abbrev kD : String := "LDirectivePrinter$Kind;"
def ix_sx : List Nat := [56, 68, 90, 103, 115, 127, 140, 166, 178, 192, 220, 254, 296, 350]
def ix_sc : List Nat := [57, 69, 91, 104, 116, 128, 141, 167, 179, 193, 221, 255, 297, 351]
def ix_sa : List Nat := [58, 70, 92, 105, 117, 129, 142, 168, 180, 194, 222, 256, 298, 352]
def ix_sl : List Nat := [59, 71, 93, 106, 118, 130, 143, 169, 181, 195, 223, 257, 299, 353]
def ix_se : List Nat := [60, 72, 94, 107, 119, 131, 144, 170, 182, 196, 224, 258, 300, 354]
def ix_sn : List Nat := [0, 89, 101, 112, 123, 135, 160, 171, 184, 211, 244, 285, 338, 374, 89, 0, 102, 113, 124, 136, 161, 172, 185, 212, 245, 286, 339, 375, 101, 102, 0, 114, 125, 137, 162, 173, 186, 213, 246, 287, 340, 376, 112, 113, 114, 0, 126, 138, 163, 174, 187, 214, 247, 288, 341, 377, 123, 124, 125, 126, 0, 139, 164, 175, 188, 215, 248, 289, 342, 378, 135, 136, 137, 138, 139, 0, 165, 176, 189, 216, 249, 290, 343, 379, 160, 161, 162, 163, 164, 165, 0, 177, 190, 217, 250, 291, 344, 380, 171, 172, 173, 174, 175, 176, 177, 0, 191, 218, 251, 292, 345, 381, 184, 185, 186, 187, 188, 189, 190, 191, 0, 219, 252, 293, 346, 382, 211, 212, 213, 214, 215, 216, 217, 218, 219, 0, 253, 294, 347, 383, 244, 245, 246, 247, 248, 249, 250, 251, 252, 253, 0, 295, 348, 384, 285, 286, 287, 288, 289, 290, 291, 292, 293, 294, 295, 0, 349, 385, 338, 339, 340, 341, 342, 343, 344, 345, 346, 347, 348, 349, 0, 386, 374, 375, 376, 377, 378, 379, 380, 381, 382, 383, 384, 385, 386, 0]
def kTm (i : Nat) : Term := .string (zOwn.getD i "") (zIdx.getD i 0)
set_option maxRecDepth 100000 in
theorem st_zN : ∀ w ∈ zN, w ∈ lw_tbl := by decide +kernel
set_option maxRecDepth 100000 in
theorem st_tW : ∀ w ∈ tW, w ∈ lw_tbl := by decide +kernel
set_option maxRecDepth 100000 in
theorem st_ao : Cond.arrayOver (.object "DirectivePrinter$Argument") ∈ lw_tbl := by decide +kernel
set_option maxRecDepth 100000 in
theorem st_lk : ∀ i, i < 6 → Cond.laysStatic kE (kNm.getD i "") kD ∈ lw_tbl := by decide +kernel
set_option maxRecDepth 100000 in
theorem st_ex : ∀ i, i < 6 → Cond.exactly (.static kE (kNm.getD i "") kD) kE ∈ flG := by decide +kernel
set_option maxRecDepth 100000 in
theorem st_ne : ∀ i, i < 6 → ∀ j, j < 6 → i ≠ j → Cond.not (.eq (.static kE (kNm.getD i "") kD) (.static kE (kNm.getD j "") kD)) ∈ flG ∨ Cond.not (.eq (.static kE (kNm.getD j "") kD) (.static kE (kNm.getD i "") kD)) ∈ flG := by decide +kernel
set_option maxRecDepth 100000 in
theorem st_ki : Cond.initialized kE ∈ lw_tbl := by decide +kernel
set_option maxRecDepth 100000 in
theorem st_sr : ∀ i, i < 14 → Cond.stringRef (zOwn.getD i "") (zIdx.getD i 0) (zTx.getD i "") ∈ lw_tbl := by decide +kernel
set_option maxRecDepth 100000 in
theorem st_sx0 : ∀ i, i < 14 → flG[ix_sx.getD i 0]? = some (Cond.exactly (kTm i) "java/lang/String") := by decide +kernel
theorem st_sx : ∀ i, i < 14 → Cond.exactly (kTm i) "java/lang/String" ∈ flG := fun i hi => List.mem_of_getElem? (st_sx0 i hi)
set_option maxRecDepth 100000 in
theorem st_sc0 : ∀ i, i < 14 → flG[ix_sc.getD i 0]? = some (Cond.eq (.field (kTm i) "java/lang/String" "coder" "B") (.int 0)) := by decide +kernel
theorem st_sc : ∀ i, i < 14 → Cond.eq (.field (kTm i) "java/lang/String" "coder" "B") (.int 0) ∈ flG := fun i hi => List.mem_of_getElem? (st_sc0 i hi)
set_option maxRecDepth 100000 in
theorem st_sa0 : ∀ i, i < 14 → flG[ix_sa.getD i 0]? = some (Cond.arrayOf (.field (kTm i) "java/lang/String" "value" "[B") .byte) := by decide +kernel
theorem st_sa : ∀ i, i < 14 → Cond.arrayOf (.field (kTm i) "java/lang/String" "value" "[B") .byte ∈ flG := fun i hi => List.mem_of_getElem? (st_sa0 i hi)
set_option maxRecDepth 100000 in
theorem st_sl0 : ∀ i, i < 14 → flG[ix_sl.getD i 0]? = some (Cond.eq (.length (.field (kTm i) "java/lang/String" "value" "[B")) (.int (Int32.ofNat (zLen.getD i 0)))) := by decide +kernel
theorem st_sl : ∀ i, i < 14 → Cond.eq (.length (.field (kTm i) "java/lang/String" "value" "[B")) (.int (Int32.ofNat (zLen.getD i 0))) ∈ flG := fun i hi => List.mem_of_getElem? (st_sl0 i hi)
set_option maxRecDepth 100000 in
theorem st_se0 : ∀ i, i < 14 → ∀ j, j < zLen.getD i 0 → flG[ix_se.getD i 0 + j]? = some (Cond.eq (.elem (.field (kTm i) "java/lang/String" "value" "[B") (.int (Int32.ofNat j))) (.int ((zByt.getD i []).getD j 0))) := by decide +kernel
theorem st_se : ∀ i, i < 14 → ∀ j, j < zLen.getD i 0 → Cond.eq (.elem (.field (kTm i) "java/lang/String" "value" "[B") (.int (Int32.ofNat j))) (.int ((zByt.getD i []).getD j 0)) ∈ flG := fun i hi j hj => List.mem_of_getElem? (st_se0 i hi j hj)
set_option maxRecDepth 100000 in
theorem st_sn0 : ∀ i, i < 14 → ∀ j, j < 14 → i ≠ j → flG[ix_sn.getD (14 * i + j) 0]? = some (Cond.not (.eq (kTm i) (kTm j))) ∨ flG[ix_sn.getD (14 * i + j) 0]? = some (Cond.not (.eq (kTm j) (kTm i))) := by decide +kernel
theorem st_sn : ∀ i, i < 14 → ∀ j, j < 14 → i ≠ j → Cond.not (.eq (kTm i) (kTm j)) ∈ flG ∨ Cond.not (.eq (kTm j) (kTm i)) ∈ flG := fun i hi j hj hn => (st_sn0 i hi j hj hn).imp (fun h => List.mem_of_getElem? h) (fun h => List.mem_of_getElem? h)
theorem st_len : ∀ i, i < 14 → zLen.getD i 0 < 2 ^ 31 := by decide
theorem zs_of {args : Array Value} {s : State} {n d : String} {A : Nat → Prop} (hl : (Cond.laysStatic "java/lang/Throwable" n d).before args s = true) (h : (Cond.isRef (.static "java/lang/Throwable" n d)).before args s = true) (hA : ∀ a : Nat, a < s.heap.size → ¬ A a) : zs n d A s s.heap := by
  obtain ⟨c, k, i, f, a, cell, hc, hi, hst, ha, hcell, hs, hcls, hlt, hty⟩ := Cond.laysStatic_spec hl
  obtain ⟨v, hv, hr⟩ := Cond.isRef_spec h
  obtain ⟨hst', a', cell', ha', hcell', -, hslot⟩ := Term.static_spec hi hv
  cases ha.symm.trans ha'
  cases hcell.symm.trans hcell'
  exact ⟨c, k, i, f, a, cell, v, hc, hi, hst, ha, hcell, hs, hcls, hlt, hty, hslot, hr, hA a (Array.getElem?_eq_some_iff.mp hcell).1⟩
set_option maxRecDepth 100000 in
theorem zL_start {s : State} {args : Array Value} (hts : ∀ w ∈ lw_tbl, w.before args s = true) (hg : (Jvm.Cond.and given_1 narrow_1).before args s = true) : ∃ ad adK adV : Nat → Nat, zL ad adK adV (fun q => s.heap.size ≤ q) s s.heap := by
  have hs := flat_of_before _ hg
  have hA : ∀ a : Nat, a < s.heap.size → ¬ (fun q => s.heap.size ≤ q) a := fun a h1 h2 => absurd h2 (Nat.not_le.mpr h1)
  obtain ⟨ad, hE⟩ := va_Enof (E := kE) (d := kD) (nm := kNm) (F := []) (A := fun q => s.heap.size ≤ q) (fun i hi => hts _ (st_lk i hi)) (hts _ st_ki) (fun i hi => hs _ (st_ex i hi)) (fun q hq => by cases hq) (fun i j hi hj hn => (st_ne i hi j hj hn).elim (fun h => Or.inl (hs _ h)) (fun h => Or.inr (hs _ h))) hA
  obtain ⟨adK, adV, hS, hR⟩ := vk_Sof (N := 14) (tm := kTm) (len := zLen) (byt := zByt) (A := fun q => s.heap.size ≤ q) st_len (fun i hi => hs _ (st_sx i hi)) (fun i hi => hs _ (st_sc i hi)) (fun i hi => hs _ (st_sa i hi)) (fun i hi => hs _ (st_sl i hi)) (fun i hi j hj => hs _ (st_se i hi j hj)) (fun i j hi hj hn => (st_sn i hi j hj hn).elim (fun h => Or.inl (hs _ h)) (fun h => Or.inr (hs _ h))) hA
  refine ⟨ad, adK, adV, ⟨fun w hw => va_Nw.of (zN_on w hw) (hts _ (st_zN w hw)), hE, hS, fun i hi => vk_R.of (hts _ (st_sr i hi)) (hR i hi), ?_, ?_⟩, ⟨fun w hw => va_Nw.of (tW_on w hw) (hts _ (st_tW w hw)), ?_, ?_⟩, va_AO.of (hts _ st_ao)⟩
  · exact va_Zof (hts _ (by decide +kernel)) (hts _ (by decide +kernel)) (va_eqi (hs _ (by decide +kernel))) hA
  · exact va_Zqof (hts _ (by decide +kernel)) (hts _ (by decide +kernel)) (hs _ (by decide +kernel)) hA
  · exact zs_of (hts _ (by decide +kernel)) (hs _ (by decide +kernel)) hA
  · exact zs_of (hts _ (by decide +kernel)) (hs _ (by decide +kernel)) hA
end MMzl

