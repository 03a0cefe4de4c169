/-! The old cells at the law's entry. -/
abbrev gvL : List Jvm.Cond := flatC (Jvm.Cond.and given_1 narrow_1)
def tAbove : Term := .static "PastCatchers" "ABOVE" "[I"
def tBodies : Term := .static "PastCatchers$Acts" "BODIES" "[I"
def tStr (i : Nat) : Term := .string RX4 (idxS i)
theorem gv_above : ∀ j, j < 7 → Jvm.Cond.eq (.elem tAbove (.int (Int32.ofNat j))) (.int (aboveL.getD j 0)) ∈ gvL := by decide +kernel
theorem gv_bodies : ∀ j, j < 21 → Jvm.Cond.eq (.elem tBodies (.int (Int32.ofNat j))) (.int (bodiesL.getD j 0)) ∈ gvL := by decide +kernel
theorem gv_s1 : ∀ i, i < 5 → Jvm.Cond.exactly (tStr i) "java/lang/String" ∈ gvL := by decide +kernel
theorem gv_s2 : ∀ i, i < 5 → Jvm.Cond.eq (.field (tStr i) "java/lang/String" "coder" "B") (.int 0) ∈ gvL := by decide +kernel
theorem gv_s3 : ∀ i, i < 5 → Jvm.Cond.arrayOf (.field (tStr i) "java/lang/String" "value" "[B") .byte ∈ gvL := by decide +kernel
theorem gv_s4 : ∀ i, i < 5 → Jvm.Cond.eq (.length (.field (tStr i) "java/lang/String" "value" "[B")) (.int (Int32.ofNat (strL.getD i 0))) ∈ gvL := by decide +kernel
theorem gv_s5 : ∀ i, i < 5 → ∀ j, j < strL.getD i 0 → Jvm.Cond.eq (.elem (.field (tStr i) "java/lang/String" "value" "[B") (.int (Int32.ofNat j))) (.int ((strB.getD i []).getD j 0)) ∈ gvL := by decide +kernel
theorem gv_s6 : ∀ i, i < 5 → ∀ j, j < 5 → i < j → Jvm.Cond.not (Jvm.Cond.eq (tStr i) (tStr j)) ∈ gvL := by decide +kernel
theorem tb_str : ∀ i, i < 5 → Jvm.Cond.stringRef RX4 (idxS i) (txS i) ∈ lw_tbl := by decide +kernel
theorem strL_lt : ∀ i, i < 5 → strL.getD i 0 < 2 ^ 31 := by decide +kernel
theorem old_tbl {s : State} {b L : Nat} {xs : Nat → Int32} (hts : ∀ q ∈ lw_tbl, q.before #[Value.ref b] s = true) (hX : va_X b L xs s s.heap) (hb : b < s.heap.size) (hgv : (Jvm.Cond.and given_1 narrow_1).before #[Value.ref b] s = true) :
    ∃ (o : Nat → Nat) (z : Value), o 0 = b ∧ ∀ (D : va_G) (cA : Nat → ClassId), OldW (s.heap.size, D, cA, o, z, (L, xs)) s := by
  have hg := flat_of_before _ hgv
  have hA : ∀ a : Nat, a < s.heap.size → ¬ (fun q => s.heap.size ≤ q) a := fun a h => Nat.not_le.mpr h
  obtain ⟨t1, e1, T1⟩ := va_Tof (tm := tAbove) (ty := .int) (N := 7) (f := fun j => .int (aboveL.getD j 0)) (by decide) (hg _ (by decide +kernel)) (va_eqt (hg _ (by decide +kernel))) (fun j hj => va_eqt (hg _ (gv_above j hj))) hA
  obtain ⟨t2, e2, T2⟩ := va_Tof (tm := tBodies) (ty := .int) (N := 21) (f := fun j => .int (bodiesL.getD j 0)) (by decide) (hg _ (by decide +kernel)) (va_eqt (hg _ (by decide +kernel))) (fun j hj => va_eqt (hg _ (gv_bodies j hj))) hA
  have Z1 := va_Zref (C := "PastCatchers") (n := "ABOVE") (d := "[I") (hts _ (by decide +kernel)) (hts _ (by decide +kernel)) e1 hA
  have Z2 := va_Zref (C := "PastCatchers$Acts") (n := "BODIES") (d := "[I") (hts _ (by decide +kernel)) (hts _ (by decide +kernel)) e2 hA
  have Z3 := va_Zof (C := "java/lang/String") (n := "COMPACT_STRINGS") (d := "Z") (hts _ (by decide +kernel)) (hts _ (by decide +kernel)) (va_eqi (z := 1) (hg _ (by decide +kernel))) hA
  have Z4 := va_Zqof (C := "jdk/internal/util/Preconditions") (n := "SIOOBE_FORMATTER") (d := "Ljava/util/function/BiFunction;") (hts _ (by decide +kernel)) (hts _ (by decide +kernel)) (hg _ (by decide +kernel)) hA
  obtain ⟨adK, adV, hS, hE⟩ := vk_Sof (N := 5) (tm := tStr) (len := strL) (byt := strB) strL_lt (fun i hi => hg _ (gv_s1 i hi)) (fun i hi => hg _ (gv_s2 i hi)) (fun i hi => hg _ (gv_s3 i hi)) (fun i hi => hg _ (gv_s4 i hi)) (fun i hi j hj => hg _ (gv_s5 i hi j hj))
    (fun i j hi hj hne => by
      rcases Nat.lt_or_gt_of_ne hne with h | h
      · exact Or.inl (hg _ (gv_s6 i hi j hj h))
      · exact Or.inr (hg _ (gv_s6 j hj i hi h))) hA
  have hz : ∃ z : Value, (z = .null ∨ ∃ t, z = .ref t) ∧ va_Z "jdk/internal/util/Preconditions" "SIOOBE_FORMATTER" "Ljava/util/function/BiFunction;" z (fun q => s.heap.size ≤ q) s s.heap := by
    rcases Z4 with h | ⟨t, h⟩
    · exact ⟨.null, Or.inl rfl, h⟩
    · exact ⟨.ref t, Or.inr ⟨t, rfl⟩, h⟩
  obtain ⟨z, hz1, hz2⟩ := hz
  have hao : va_AO RX5 s := va_AO.of (hts (.arrayOver (.object RX5)) (by decide +kernel))
  have haa : vz_AOA .long s := hts (.arrayOver (.array .long)) (by decide +kernel)
  refine ⟨fun j => if j = 0 then b else if j = 1 then t1 else if j = 2 then t2 else if j < 8 then adK (j - 3) else adV (j - 8), z, rfl, fun D cA => ?_⟩
  refine ⟨hX, hb, Nat.le_refl _, T1, T2, Z1, Z2, Z3, hz2, ?_, fun j hj => ?_, hao, haa, hz1⟩
  · have f1 : ∀ i, i < 5 → (if 3 + i = 0 then b else if 3 + i = 1 then t1 else if 3 + i = 2 then t2 else if 3 + i < 8 then adK (3 + i - 3) else adV (3 + i - 8)) = adK i := by
      intro i hi
      rw [if_neg (by omega), if_neg (by omega), if_neg (by omega), if_pos (by omega), show 3 + i - 3 = i by omega]
    have f2 : ∀ i, (if 8 + i = 0 then b else if 8 + i = 1 then t1 else if 8 + i = 2 then t2 else if 8 + i < 8 then adK (8 + i - 3) else adV (8 + i - 8)) = adV i := by
      intro i
      rw [if_neg (by omega), if_neg (by omega), if_neg (by omega), if_neg (by omega), show 8 + i - 8 = i by omega]
    obtain ⟨h1, h2⟩ := hS
    refine ⟨fun i hi => ?_, fun i j hi hj e => ?_⟩
    · show va_O _ (if _ then _ else _) _ _ _ ∧ va_OF _ _ _ _ (if _ then _ else _) _ _ _ ∧ va_OF _ _ _ (.ref (if _ then _ else _)) (if _ then _ else _) _ _ _ ∧ va_T _ (if _ then _ else _) _ _ _ _ _
      rw [f1 i hi, f2 i]
      exact h1 i hi
    · have e' : (if 3 + i = 0 then b else if 3 + i = 1 then t1 else if 3 + i = 2 then t2 else if 3 + i < 8 then adK (3 + i - 3) else adV (3 + i - 8)) = (if 3 + j = 0 then b else if 3 + j = 1 then t1 else if 3 + j = 2 then t2 else if 3 + j < 8 then adK (3 + j - 3) else adV (3 + j - 8)) := e
      rw [f1 i hi, f1 j hj] at e'
      exact h2 i j hi hj e'
  · have f1 : (if 3 + j = 0 then b else if 3 + j = 1 then t1 else if 3 + j = 2 then t2 else if 3 + j < 8 then adK (3 + j - 3) else adV (3 + j - 8)) = adK j := by
      rw [if_neg (by omega), if_neg (by omega), if_neg (by omega), if_pos (by omega), show 3 + j - 3 = j by omega]
    show vk_R RX4 (idxS j) (txS j) (if _ then _ else _) s
    rw [f1]
    exact vk_R.of (hts _ (tb_str j hj)) (hE j hj)
