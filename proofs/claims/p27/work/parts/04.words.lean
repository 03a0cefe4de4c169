/-! What the tables' words say of every printed instruction, checked by the kernel in bulk. -/
def vwC : Nat → String := fun c => match c with
  | 0 => RX0
  | 1 => RX1
  | 2 => RX2
  | 3 => RX3
  | 4 => RX4
  | 5 => RX5
  | 6 => RX6
  | _ => RX7
def vwT : Nat → u_T := fun c => match c with
  | 0 => TX0
  | 1 => TX1
  | 2 => TX2
  | 3 => TX3
  | 4 => TX4
  | 5 => TX5
  | 6 => TX6
  | _ => TX7
def BIGG : List Jvm.Cond := lw_tbl.filter goodWord
def isNest : Jvm.Cond → Bool
  | .fieldLinkNest _ _ _ _ _ _ => true
  | .methodLinkNest _ _ _ _ => true
  | _ => false
def NEST : List Jvm.Cond := tables_1.filter isNest
/-- a word by its place: 1000 times the chunk, and the place there; chunk 0: the selects of private methods -/
def wAt (pl : Nat) : Option Jvm.Cond := match pl / 1000 with
  | 0 => (k2_sels lw_privs)[pl % 1000]?
  | 1 => tables_1_1[pl % 1000]?
  | 2 => tables_1_2[pl % 1000]?
  | 3 => tables_1_3[pl % 1000]?
  | 4 => tables_1_4[pl % 1000]?
  | 5 => tables_1_5[pl % 1000]?
  | 6 => tables_1_6[pl % 1000]?
  | _ => none
def linkOK (pl : Nat) (w : Jvm.Cond) : Bool := match wAt pl with
  | some w' => decide (w' = w) && goodWord w
  | none => false
def nestOK (pl : Nat) (w : Jvm.Cond) : Bool := match wAt pl with
  | some w' => decide (w' = w) && isNest w
  | none => false
theorem wAt_in {pl : Nat} {w : Jvm.Cond} (h : wAt pl = some w) : w ∈ lw_tbl := by
  have t : ∀ x, (x ∈ tables_1_1 ∨ x ∈ tables_1_2 ∨ x ∈ tables_1_3 ∨ x ∈ tables_1_4 ∨ x ∈ tables_1_5 ∨ x ∈ tables_1_6) → x ∈ lw_tbl := by
    intro x hx
    refine List.mem_append_right _ ?_
    show x ∈ tables_1_1 ++ (tables_1_2 ++ (tables_1_3 ++ (tables_1_4 ++ (tables_1_5 ++ tables_1_6))))
    simpa only [List.mem_append] using hx
  unfold wAt at h
  split at h
  · exact List.mem_append_left _ (List.mem_of_getElem? h)
  · exact t _ (Or.inl (List.mem_of_getElem? h))
  · exact t _ (Or.inr (Or.inl (List.mem_of_getElem? h)))
  · exact t _ (Or.inr (Or.inr (Or.inl (List.mem_of_getElem? h))))
  · exact t _ (Or.inr (Or.inr (Or.inr (Or.inl (List.mem_of_getElem? h)))))
  · exact t _ (Or.inr (Or.inr (Or.inr (Or.inr (Or.inl (List.mem_of_getElem? h))))))
  · exact t _ (Or.inr (Or.inr (Or.inr (Or.inr (Or.inr (List.mem_of_getElem? h))))))
  · cases h
theorem sels_not_nest : ∀ w ∈ k2_sels lw_privs, isNest w = false := by
  intro w hw
  obtain ⟨q, -, rfl⟩ := List.mem_map.mp hw
  rfl
theorem linkOK_in {pl : Nat} {w : Jvm.Cond} (h : linkOK pl w = true) : w ∈ BIGG := by
  unfold linkOK at h
  split at h
  · rename_i w' hw
    obtain ⟨h1, h2⟩ := (Bool.and_eq_true _ _).mp h
    have h1 := of_decide_eq_true h1
    subst h1
    exact List.mem_filter.mpr ⟨wAt_in hw, h2⟩
  · cases h
theorem nestOK_in {pl : Nat} {w : Jvm.Cond} (h : nestOK pl w = true) : w ∈ NEST := by
  unfold nestOK at h
  split at h
  · rename_i w' hw
    obtain ⟨h1, h2⟩ := (Bool.and_eq_true _ _).mp h
    have h1 := of_decide_eq_true h1
    subst h1
    rcases List.mem_append.mp (wAt_in hw) with h3 | h3
    · rw [sels_not_nest _ h3] at h2
      cases h2
    · exact List.mem_filter.mpr ⟨h3, h2⟩
  · cases h
theorem BIGG_good : ∀ w ∈ BIGG, goodWord w = true := fun _ h => (List.mem_filter.mp h).2
theorem BIGG_tbl : ∀ w ∈ BIGG, w ∈ lw_tbl := fun _ h => (List.mem_filter.mp h).1
/-- the length of an instruction; 0: it is as the table says -/
def ilen : Instr → Nat
  | .bipush _ => 2 | .sipush _ => 3 | .ldc _ => 2 | .ldc_w _ => 3 | .ldc2_w _ => 3
  | .iload _ => 2 | .lload _ => 2 | .aload _ => 2 | .istore _ => 2 | .lstore _ => 2 | .astore _ => 2
  | .iinc _ _ => 3 | .ifCond _ _ => 3 | .if_icmp _ _ => 3 | .goto _ => 3
  | .tableswitch _ _ _ _ => 0 | .lookupswitch _ _ => 0
  | .getfield _ => 3 | .putfield _ => 3 | .getstatic _ => 3 | .new _ => 3 | .newarray _ => 2 | .anewarray _ => 3 | .multianewarray _ _ => 4
  | .invokevirtual _ => 3 | .invokespecial _ => 3 | .invokestatic _ => 3
  | _ => 1
def sFld (f : Nat) : String := if f = 0 then "value" else "coder"
def sFldD (f : Nat) : String := if f = 0 then "[B" else "B"
def fldOK (own : String) (idx ci k nest pl : Nat) : Bool := if nest = 0 then linkOK pl (.fieldLink own idx (vwC ci) (vwT ci k).2.1 (vwT ci k).2.2.1) else nestOK pl (.fieldLinkNest own idx (vwC ci) (vwT ci k).2.1 (vwT ci k).2.2.1 "PastCatchers")
def staOK (own : String) (idx s nest pl : Nat) : Bool := match s with
  | 0 => if nest = 0 then linkOK pl (.fieldLink own idx "PastCatchers" "ABOVE" "[I") else nestOK pl (.fieldLinkNest own idx "PastCatchers" "ABOVE" "[I" "PastCatchers")
  | 1 => nest == 0 && linkOK pl (.fieldLink own idx "PastCatchers$Acts" "BODIES" "[I")
  | 2 => nest == 0 && linkOK pl (.fieldLink own idx "java/lang/String" "COMPACT_STRINGS" "Z")
  | 3 => nest == 0 && linkOK pl (.fieldLink own idx "jdk/internal/util/Preconditions" "SIOOBE_FORMATTER" "Ljava/util/function/BiFunction;")
  | _ => false
def iniPl (ci : Nat) (nm : String) : Nat := (iniP.find? (fun q => q.1 == nm)).elim 0 (·.2)
def idxS : Nat → Nat := fun j => match j with
  | 0 => 55 | 1 => 61 | 2 => 63 | 3 => 78 | _ => 84
def txS : Nat → String := fun j => match j with
  | 0 => "each" | 1 => "old" | 2 => "odge" | 3 => "pklsay" | _ => "<=>"
/-- what holds of a method once for all its calls -/
def mOK (c : Nat) : Bool := decide ((mName c).cls ≠ "java/lang/invoke/MethodHandle") && decide ((mName c).cls ≠ "java/lang/invoke/VarHandle") && plainFor (mName c) && decide (mMaxL c ≤ 40) &&
  (decide (mCi c < 8 ∧ (mName c).cls = vwC (mCi c)) || decide (mCi c = 9 ∧ (mName c).cls = "java/lang/String") || decide (mCi c = 10)) && linkOK (iniPl (mCi c) (mName c).cls) (.initialized (mName c).cls)
/-- what a call of each kind wants -/
def kdOK (c na kd a sl : Nat) : Bool := match kd with
  | 0 => linkOK a (.instanceMethod (mName c)) && linkOK sl (.selects (mName c).cls (mName c) (mName c)) && decide ((parseMethodDescriptor (mName c).desc).map (fun d => d.parameters.length + 1) = some na) && decide (mCi c < 10)
  | 1 => linkOK a (.instanceMethod (mName c)) && decide ((mName c).name = "<init>") && decide (mRet c = none) && decide ((parseMethodDescriptor (mName c).desc).map (fun d => d.parameters.length + 1) = some na)
  | 2 => linkOK a (.static (mName c)) && decide ((parseMethodDescriptor (mName c).desc).map (fun d => d.parameters.length) = some na)
  | _ => false
/-- a call of method c: its link -/
def calOK (own : String) (idx c na kd nest pl a sl : Nat) : Bool :=
  (if nest = 0 then linkOK pl (.methodLink own idx (mName c)) else nestOK pl (.methodLinkNest own idx (mName c) "PastCatchers")) && decide (0 < c) && decide (c < 223) && kdOK c na kd a sl
def lnkE (y : Nat) (i : Instr) (o : List Nat) : Bool := match i with
  | .getfield idx => (match o with
    | [9, f, _, pl] => linkOK pl (.fieldLink (mName y).cls idx "java/lang/String" (sFld f) (sFldD f))
    | [ci, k, nest, pl] => fldOK (mName y).cls idx ci k nest pl && decide (ci < 8)
    | _ => true)
  | .putfield idx => (match o with
    | [ci, k, nest, pl] => fldOK (mName y).cls idx ci k nest pl && decide (ci < 8) && ((vwT ci k).2.2.2 == false || (decide (nest = 0) && decide ((mName y).name = "<init>") && decide ((mName y).cls = vwC ci)))
    | _ => true)
  | .getstatic idx => (match o with
    | [s, nest, pl] => staOK (mName y).cls idx s nest pl
    | _ => true)
  | .ldc idx => (match o with
    | [0, v, pl] => linkOK pl (.constant (mName y).cls idx (Int32.ofNat v))
    | [1, j, _] => decide ((mName y).cls = RX4) && decide (idx = idxS j)
    | _ => true)
  | .ldc_w idx => (match o with
    | [0, v, pl] => linkOK pl (.constant (mName y).cls idx (Int32.ofNat v))
    | _ => true)
  | .ldc2_w idx => (match o with
    | [v, pl] => linkOK pl (.constantLong (mName y).cls idx (Int64.ofNat v))
    | _ => true)
  | .new idx => (match o with
    | [ci, pl] => linkOK pl (.classLink (mName y).cls idx (vwC ci))
    | _ => true)
  | .anewarray idx => (match o with
    | [pl] => linkOK pl (.classLink (mName y).cls idx RX5)
    | _ => false)
  | .multianewarray idx _ => (match o with
    | [pl] => linkOK pl (.classLink (mName y).cls idx "[[J")
    | _ => false)
  | .invokespecial idx => (match o with
    | [9999, _, _, _, pl] => linkOK pl (.methodLink (mName y).cls idx objectInit)
    | [c, na, kd, nest, pl, a, sl] => kd == 1 && calOK (mName y).cls idx c na kd nest pl a sl
    | _ => true)
  | .invokestatic idx => (match o with
    | [9998, _, _, _, pl] => linkOK pl (.methodLink (mName y).cls idx arraycopyName)
    | [c, na, kd, nest, pl, a, sl] => kd == 2 && calOK (mName y).cls idx c na kd nest pl a sl
    | _ => true)
  | .invokevirtual idx => (match o with
    | [c, na, kd, nest, pl, a, sl] => kd == 0 && calOK (mName y).cls idx c na kd nest pl a sl
    | _ => true)
  | _ => true
def okE (y : Nat) (q : En) : Bool := decide (decode (mBytes y) q.1 = .ok (q.2.1, q.2.2.1)) && (ilen q.2.1 == 0 || ilen q.2.1 == q.2.2.1) && lnkE y q.2.1 q.2.2.2
