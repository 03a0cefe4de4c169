/-! An instruction on locals, stack and numbers goes as the interval machine says. -/
def Suc (X : Scr) (W : List (Nat × Nat)) (i : Instr) (o : List Nat) (pc : Nat) (S : AS) (L st : List Value) (h : Hp) (ρ : Nat → Int) (l : List (Nat × AS)) : Prop :=
  ∃ (pc' : Nat) (S' : AS) (ρ' : Nat → Int) (L' st' : List Value) (h' : Hp), (pc', S') ∈ l ∧ hstep X i o pc L st h = some (pc', L', st', h') ∧ gam ρ' S' L' st' h' ∧ HI h' ∧ frm W h h' ∧ ext S.1.length ρ ρ' ∧ S.1.length ≤ S'.1.length ∧ L'.length = L.length
theorem frm_refl {W : List (Nat × Nat)} {h : Hp} : frm W h h := fun _ _ _ => ⟨rfl, rfl, rfl⟩
theorem vm1 {n : Nat} {ρ : Nat → Int} {a : AV} {v : Value} (ha : a.1 = 1) (h : vm n ρ a v) : ∃ x : Int32, v = .int x ∧ tOK n ρ a.2.1 x.toInt := by
  obtain ⟨k, t, u, l⟩ := a
  cases (show k = 1 from ha)
  exact h
theorem vm2 {n : Nat} {ρ : Nat → Int} {a : AV} {v : Value} (ha : a.1 = 2) (h : vm n ρ a v) : ∃ x : Int64, v = .long x ∧ tOK n ρ a.2.1 x.toInt := by
  obtain ⟨k, t, u, l⟩ := a
  cases (show k = 2 from ha)
  exact h
theorem vm3 {n : Nat} {ρ : Nat → Int} {a : AV} {v : Value} (ha : a.1 = 3) (h : vm n ρ a v) : ∃ b : Nat, v = .ref b ∧ b ∈ a.2.2.2 := by
  obtain ⟨k, t, u, l⟩ := a
  cases (show k = 3 from ha)
  exact h
theorem vm4 {n : Nat} {ρ : Nat → Int} {a : AV} {v : Value} (ha : a.1 = 4) (h : vm n ρ a v) : ∃ x y : Int64, v = .int (sgn x.toInt y.toInt) ∧ tOK n ρ a.2.1 x.toInt ∧ tOK n ρ a.2.2.1 y.toInt := by
  obtain ⟨k, t, u, l⟩ := a
  cases (show k = 4 from ha)
  exact h
theorem vm_cat {n : Nat} {ρ : Nat → Int} {a : AV} {v : Value} (ha : cat1 a = true) (h : vm n ρ a v) : v.category = 1 := by
  obtain ⟨k, t, u, l⟩ := a
  match k, h with
  | 0, h => exact h
  | 1, ⟨x, e, _⟩ => rw [e]; rfl
  | 2, _ => cases ha
  | 3, ⟨x, e, _⟩ => rw [e]; rfl
  | 4, ⟨x, y, e, _⟩ => rw [e]; rfl
  | k + 5, _ => simp [cat1] at ha
theorem aOk_ok {n : Nat} {ρ : Nat → Int} {AL : List AV} {L : List Value} (h : al2 (vm n ρ) AL L) : ∀ {k : Nat}, aOkSt AL k = true → okSt L k = true
  | 0, _ => rfl
  | k + 1, hk => by
    have hk : (match AL[k]? with | some a => cat1 a | none => false) = true := hk
    split at hk
    · rename_i a ha
      obtain ⟨v, e, hv⟩ := al2_get h ha
      show (match L[k]? with | some v => v.category == 1 | none => false) = true
      rw [e]
      simp [vm_cat hk hv]
    · cases hk
theorem sm32 (x : Int32) : smI x.toInt := by
  have := i32r x
  simp only [fI] at this
  unfold smI BIGI
  omega
theorem sm64 (x : Int64) : smI x.toInt := by
  have := i64r x
  simp only [fL] at this
  unfold smI BIGI
  omega
theorem sm0 : smI 0 := by unfold smI BIGI; omega
theorem condB_I {q : Jvm.ClassFile.Cond} {x y : Int32} : condB q x y = cndI q x.toInt y.toInt := by
  cases q <;> simp only [condB, cndI] <;> refine decide_eq_decide.mpr ?_
  · exact Int32.toInt_inj.symm
  · exact not_congr Int32.toInt_inj.symm
  · exact Int32.lt_iff_toInt_lt
  · exact Int32.le_iff_toInt_le
  · exact Int32.lt_iff_toInt_lt
  · exact Int32.le_iff_toInt_le
theorem condB_sgn {q : Jvm.ClassFile.Cond} {x y : Int} : condB q (sgn x y) 0 = cndI q x y := by
  unfold sgn
  rcases Int.lt_trichotomy x y with h | h | h
  · rw [if_pos h]
    cases q <;> first | exact (by decide : condB _ (-1) 0 = false).trans (decide_eq_false (by omega)).symm | exact (by decide : condB _ (-1) 0 = true).trans (decide_eq_true (by omega)).symm
  · rw [if_neg (by omega), if_pos h]
    cases q <;> first | exact (by decide : condB _ 0 0 = false).trans (decide_eq_false (by omega)).symm | exact (by decide : condB _ 0 0 = true).trans (decide_eq_true (by omega)).symm
  · rw [if_neg (by omega), if_neg (by omega)]
    cases q <;> first | exact (by decide : condB _ 1 0 = false).trans (decide_eq_false (by omega)).symm | exact (by decide : condB _ 1 0 = true).trans (decide_eq_true (by omega)).symm
section SU
variable {X : Scr} {W : List (Nat × Nat)} {i : Instr} {o : List Nat} {pc pc' : Nat} {B : Bd} {AL Ast : List AV} {F : List (Nat × Nat × Tm)} {L st : List Value} {h : Hp} {ρ : Nat → Int}
/-- a step that leaves heap and locals, on a stack like this -/
theorem suc_one (hh : HI h) {B' : Bd} {AL' Ast' : List AV} {L' st' : List Value} {ρ' : Nat → Int} {l : List (Nat × AS)} (hm : (pc', B', AL', Ast', F) ∈ l) (hs : hstep X i o pc L st h = some (pc', L', st', h)) (g : gam ρ' (B', AL', Ast', F) L' st' h) (he : ext B.length ρ ρ') (hl : B.length ≤ B'.length) (hL : L'.length = L.length) :
    Suc X W i o pc (B, AL, Ast, F) L st h ρ l := ⟨pc', (B', AL', Ast', F), ρ', L', st', h, hm, hs, g, hh, frm_refl, he, hl, hL⟩
theorem suc_push (g : gam ρ (B, AL, Ast, F) L st h) (hh : HI h) {a : AV} {v : Value} {st2 : List Value} {Ast2 : List AV} (hr : al2 (vm B.length ρ) Ast2 st2) (hv : vm B.length ρ a v) (hs : hstep X i o pc L st h = some (pc', L, v :: st2, h)) : Suc X W i o pc (B, AL, Ast, F) L st h ρ [(pc', B, AL, a :: Ast2, F)] :=
  suc_one hh (List.mem_singleton.mpr rfl) hs ⟨g.1, g.2.1, ⟨hv, hr⟩, g.2.2.2⟩ ext_refl (Nat.le_refl _) rfl
/-- .. that pushes a new number -/
theorem suc_new (g : gam ρ (B, AL, Ast, F) L st h) (hh : HI h) {r : Int × Int} {z : Int32} {st2 : List Value} {Ast2 : List AV} (hr : al2 (vm B.length ρ) Ast2 st2) (h1 : r.1 ≤ z.toInt) (h2 : z.toInt ≤ r.2) (hs : hstep X i o pc L st h = some (pc', L, .int z :: st2, h)) : Suc X W i o pc (B, AL, Ast, F) L st h ρ [(pc', pushI (B, AL, Ast, F) Ast2 r)] := by
  obtain ⟨ρ', e, b, t, n⟩ := frT_ok g.1 h1 h2
  have g2 := gam_ext (AL := AL) (Ast := Ast2) (F := F) (st := st2) ⟨g.1, g.2.1, hr, g.2.2.2⟩ b n e
  exact suc_one hh (List.mem_singleton.mpr rfl) hs ⟨g2.1, g2.2.1, ⟨⟨z, rfl, t⟩, g2.2.2.1⟩, g2.2.2.2⟩ e n rfl
theorem suc_newL (g : gam ρ (B, AL, Ast, F) L st h) (hh : HI h) {z : Int64} {st2 : List Value} {Ast2 : List AV} (hr : al2 (vm B.length ρ) Ast2 st2) (hs : hstep X i o pc L st h = some (pc', L, .long z :: st2, h)) : Suc X W i o pc (B, AL, Ast, F) L st h ρ [(pc', pushL (B, AL, Ast, F) Ast2 fL)] := by
  obtain ⟨ρ', e, b, t, n⟩ := frT_ok g.1 (i64r z).1 (i64r z).2
  have g2 := gam_ext (AL := AL) (Ast := Ast2) (F := F) (st := st2) ⟨g.1, g.2.1, hr, g.2.2.2⟩ b n e
  exact suc_one hh (List.mem_singleton.mpr rfl) hs ⟨g2.1, g2.2.1, ⟨⟨z, rfl, t⟩, g2.2.2.1⟩, g2.2.2.2⟩ e n rfl
theorem suc_store (g : gam ρ (B, AL, Ast, F) L st h) (hh : HI h) {a : AV} {v : Value} {k : Nat} {st2 : List Value} {Ast2 : List AV} (hr : al2 (vm B.length ρ) Ast2 st2) (hv : vm B.length ρ a v) (hs : hstep X i o pc L st h = some (pc', L.set k v, st2, h)) : Suc X W i o pc (B, AL, Ast, F) L st h ρ [(pc', B, AL.set k a, Ast2, F)] :=
  suc_one hh (List.mem_singleton.mpr rfl) hs ⟨g.1, al2_set g.2.1 hv, hr, g.2.2.2⟩ ext_refl (Nat.le_refl _) (List.length_set ..)
theorem suc_storeL (g : gam ρ (B, AL, Ast, F) L st h) (hh : HI h) {a : AV} {v : Value} {k : Nat} {st2 : List Value} {Ast2 : List AV} (hr : al2 (vm B.length ρ) Ast2 st2) (hv : vm B.length ρ a v) (hs : hstep X i o pc L st h = some (pc', (L.set k v).set (k + 1) (.retAddr 0), st2, h)) : Suc X W i o pc (B, AL, Ast, F) L st h ρ [(pc', B, (AL.set k a).set (k + 1) jT, Ast2, F)] :=
  suc_one hh (List.mem_singleton.mpr rfl) hs ⟨g.1, al2_set (al2_set g.2.1 hv) (show vm B.length ρ jT (.retAddr 0) from rfl), hr, g.2.2.2⟩ ext_refl (Nat.le_refl _) (by rw [List.length_set, List.length_set])
theorem aBin_ok {p q r : Int × Int} {x y : Int32} (hb : aBin i p q = some r) (x1 : p.1 ≤ x.toInt) (x2 : x.toInt ≤ p.2) (y1 : q.1 ≤ y.toInt) (y2 : y.toInt ≤ q.2) : ∃ z : Int32, hstep X i o pc L (.int y :: .int x :: st) h = some (pc + 1, L, .int z :: st, h) ∧ r.1 ≤ z.toInt ∧ z.toInt ≤ r.2 := by
  cases i with
  | imul =>
    refine ⟨x * y, rfl, ?_⟩
    simp only [aBin] at hb
    cases hb
    split
    · rename_i h0
      have e1 : p.1 * q.1 ≤ x.toInt * y.toInt := Int.mul_le_mul x1 y1 h0.2 (by omega)
      have e2 : x.toInt * y.toInt ≤ p.2 * q.2 := Int.mul_le_mul x2 y2 (by omega) (by omega)
      exact clampI_ok (z := x.toInt * y.toInt) _ (fun hc => by have := clampI_in hc; exact i_mul (by omega) (by omega)) e1 e2
    · exact i32r _
  | idiv =>
    simp only [aBin] at hb
    split at hb
    · rename_i h0
      cases hb
      have hy : ¬ y = 0 := fun e => by subst e; have : (0 : Int32).toInt = 0 := rfl; omega
      refine ⟨x / y, ?_, ?_⟩
      · show (if y = 0 then none else some (pc + 1, L, Value.int (x / y) :: st)).map _ = _
        rw [if_neg hy]
        rfl
      · split
        · rename_i h1
          have := i_div (x := x) (y := y) (by omega) (by omega)
          exact ⟨this.1, by show (x / y).toInt ≤ p.2; omega⟩
        · exact i32r _
    · cases hb
  | irem =>
    simp only [aBin] at hb
    split at hb
    · rename_i h0
      cases hb
      have hy : ¬ y = 0 := fun e => by subst e; have : (0 : Int32).toInt = 0 := rfl; omega
      refine ⟨x - x / y * y, ?_, ?_⟩
      · show (if y = 0 then none else some (pc + 1, L, Value.int (x - x / y * y) :: st)).map _ = _
        rw [if_neg hy]
        rfl
      · rw [i_rem (by omega)]
        have hl : x.toInt.tmod y.toInt < y.toInt := Int.tmod_lt_of_pos _ (by omega)
        split
        · rename_i h1
          have h2 := Int.tmod_nonneg y.toInt (show 0 ≤ x.toInt by omega)
          have h3 : x.toInt.tmod y.toInt ≤ x.toInt := by
            have hm : x.toInt.tmod y.toInt + y.toInt * x.toInt.tdiv y.toInt = x.toInt := Int.tmod_add_mul_tdiv _ _
            have hq : 0 ≤ y.toInt * x.toInt.tdiv y.toInt := Int.mul_nonneg (by omega) (Int.tdiv_nonneg (by omega) (by omega))
            omega
          exact ⟨h2, by show _ ≤ min p.2 (q.2 - 1); omega⟩
        · have hg : -y.toInt < x.toInt.tmod y.toInt := by
            rcases Int.lt_or_le x.toInt 0 with h | h
            · have := Int.tmod_lt_of_pos (-x.toInt) (show 0 < y.toInt by omega)
              rw [Int.neg_tmod] at this
              omega
            · have := Int.tmod_nonneg y.toInt h
              omega
          exact ⟨by show -(q.2 - 1) ≤ _; omega, by show _ ≤ q.2 - 1; omega⟩
    · split at hb
      · cases hb
        have hy : ¬ y = 0 := fun e => by subst e; have : (0 : Int32).toInt = 0 := rfl; omega
        refine ⟨x - x / y * y, ?_, i32r _⟩
        show (if y = 0 then none else some (pc + 1, L, Value.int (x - x / y * y) :: st)).map _ = _
        rw [if_neg hy]
        rfl
      · cases hb
  | iand =>
    refine ⟨x &&& y, rfl, ?_⟩
    simp only [aBin] at hb
    cases hb
    split
    · have a1 := i_and1 (x := x) (y := y) (by omega)
      split
      · have a2 := i_and2 (x := x) (y := y) (by omega)
        exact ⟨a1.1, by show _ ≤ min p.2 q.2; omega⟩
      · exact ⟨a1.1, by show _ ≤ p.2; omega⟩
    · split
      · have a2 := i_and2 (x := x) (y := y) (by omega)
        exact ⟨a2.1, by show _ ≤ q.2; omega⟩
      · exact i32r _
  | ior =>
    refine ⟨x ||| y, rfl, ?_⟩
    simp only [aBin] at hb
    cases hb
    split
    · by_cases hm : max p.2 q.2 ≤ 2147483647
      · have a := i_or (x := x) (y := y) (m := max p.2 q.2) (by omega) (by omega) (by omega) (by omega) hm
        exact clampI_ok (z := (x ||| y).toInt) _ (fun _ => rfl) a.1 a.2
      · have hno : ¬ clampI ((0 : Int), (2 : Int) ^ ((max p.2 q.2).toNat.log2 + 1) - 1) = ((0 : Int), (2 : Int) ^ ((max p.2 q.2).toNat.log2 + 1) - 1) := by
          intro hc
          have h1 := (clampI_in hc).2
          have h2 : (max p.2 q.2).toNat < 2 ^ ((max p.2 q.2).toNat.log2 + 1) := Nat.lt_log2_self
          have h3 : ((2 ^ ((max p.2 q.2).toNat.log2 + 1) : Nat) : Int) = (2 : Int) ^ ((max p.2 q.2).toNat.log2 + 1) := by simp
          simp only at h1
          omega
        rw [clampI_no hno]
        exact i32r _
    · exact i32r _
  | ixor =>
    refine ⟨x ^^^ y, rfl, ?_⟩
    simp only [aBin] at hb
    cases hb
    exact i32r _
  | ishl =>
    refine ⟨x <<< (y &&& 31), rfl, ?_⟩
    simp only [aBin] at hb
    cases hb
    split
    · rename_i h0
      obtain ⟨e, a, b⟩ := h0
      subst e
      have hx : x = 1 := by
        apply Int32.toInt.inj
        have : (1 : Int32).toInt = 1 := rfl
        simp only at x1 x2
        omega
      subst hx
      rw [i_shl (by omega) (by omega)]
      constructor
      · show (1 : Int) ≤ 2 ^ y.toInt.toNat
        have : 1 ≤ 2 ^ y.toInt.toNat := Nat.one_le_two_pow
        exact_mod_cast this
      · show (2 : Int) ^ y.toInt.toNat ≤ 2 ^ q.2.toNat
        have : 2 ^ y.toInt.toNat ≤ 2 ^ q.2.toNat := Nat.pow_le_pow_right (by omega) (by omega)
        exact_mod_cast this
    · exact i32r _
  | ishr =>
    refine ⟨x >>> (y &&& 31), rfl, ?_⟩
    simp only [aBin] at hb
    cases hb
    split
    · have a := i_shr (x := x) (y := y) (by omega)
      exact ⟨a.1, by show _ ≤ p.2; omega⟩
    · exact i32r _
  | iushr =>
    refine ⟨(x.toUInt32 >>> (y.toUInt32 &&& Int32.toUInt32 31)).toInt32, rfl, ?_⟩
    simp only [aBin] at hb
    cases hb
    exact i32r _
  | _ => cases hb
theorem aUn_ok {r : Int × Int} {x : Int32} (hb : aUn i = some r) : ∃ z : Int32, hstep X i o pc L (.int x :: st) h = some (pc + 1, L, .int z :: st, h) ∧ r.1 ≤ z.toInt ∧ z.toInt ≤ r.2 := by
  cases i with
  | ineg =>
    cases hb
    exact ⟨_, rfl, i32r _⟩
  | i2b =>
    cases hb
    refine ⟨_, rfl, ?_⟩
    rw [Int8.toInt_toInt32]
    have a := x.toInt8.le_toInt
    have b := x.toInt8.toInt_lt
    exact ⟨by show (-128 : Int) ≤ _; omega, by show _ ≤ (127 : Int); omega⟩
  | i2s =>
    cases hb
    refine ⟨_, rfl, ?_⟩
    rw [Int16.toInt_toInt32]
    have a := x.toInt16.le_toInt
    have b := x.toInt16.toInt_lt
    exact ⟨by show (-32768 : Int) ≤ _; omega, by show _ ≤ (32767 : Int); omega⟩
  | i2c =>
    cases hb
    refine ⟨_, rfl, ?_⟩
    have e : (x.toUInt32 % 65536).toInt32.toBitVec.toNat = x.toUInt32.toNat % 65536 := rfl
    have l := bn_to (x := (x.toUInt32 % 65536).toInt32) (by omega)
    rw [l, e]
    exact ⟨by show (0 : Int) ≤ _; omega, by show _ ≤ (65535 : Int); omega⟩
  | _ => cases hb
theorem aBinL_ok {x y : Int64} (hb : aBinL i = true) : ∃ z : Int64, hstep X i o pc L (.long y :: .long x :: st) h = some (pc + 1, L, .long z :: st, h) := by
  cases i with
  | land => exact ⟨_, rfl⟩
  | lor => exact ⟨_, rfl⟩
  | lxor => exact ⟨_, rfl⟩
  | _ => cases hb
theorem aSh_ok {x : Int64} {y : Int32} (hb : aSh i = true) : ∃ z : Int64, hstep X i o pc L (.int y :: .long x :: st) h = some (pc + 1, L, .long z :: st, h) := by
  cases i with
  | lshl => exact ⟨_, rfl⟩
  | lshr => exact ⟨_, rfl⟩
  | _ => cases hb
end SU
