/-! What stands as bits in a long. -/
theorem i_dv {x y : Int32} (h1 : 0 ≤ x.toInt) (h2 : 0 < y.toInt) : (x / y).toInt = x.toInt / y.toInt := by
  have h3 := i_div h1 h2
  have hr := i32r x
  simp only [fI] at hr
  rw [Int32.toInt_div]
  have q1 : 0 ≤ x.toInt.tdiv y.toInt := Int.tdiv_nonneg h1 (by omega)
  have q2 : x.toInt.tdiv y.toInt ≤ x.toInt := Int.tdiv_le_self _ h1
  rw [bm32 (by omega) (by omega)]
  exact Int.tdiv_eq_ediv_of_nonneg h1
/-- the newest value is the lowest bit -/
def BST (v : Int64) (st : List Bool) : Prop := ∀ j, j < 64 → v.toBitVec.getLsbD j = st.getD j false
theorem l_top (v : Int64) : v &&& 1 = if v.toBitVec.getLsbD 0 = true then 1 else 0 := by
  apply Int64.toBitVec_inj.mp
  rw [Int64.toBitVec_and]
  show v.toBitVec &&& 1#64 = _
  rw [BitVec.and_one_eq_setWidth_ofBool_getLsbD]
  cases v.toBitVec.getLsbD 0 <;> rfl
theorem sh1 : ((1 : Int32).toInt64 &&& 63) = (1 : Int64) := by decide
theorem l_shl (v : Int64) (j : Nat) (hj : j < 64) : (v <<< (1 : Int64)).toBitVec.getLsbD j = if j = 0 then false else v.toBitVec.getLsbD (j - 1) := by
  rw [Int64.toBitVec_shiftLeft]
  have e : (Int64.toBitVec 1).smod 64 = 1#64 := by decide
  rw [e, BitVec.shiftLeft_eq', BitVec.getLsbD_shiftLeft]
  have e1 : (1#64).toNat = 1 := rfl
  rw [e1, decide_eq_true hj]
  by_cases c : j = 0
  · subst c
    rfl
  · rw [if_neg c, decide_eq_false (by omega : ¬ j < 1)]
    rfl
theorem l_shr (v : Int64) (j : Nat) (hj : j < 63) : (v >>> (1 : Int64)).toBitVec.getLsbD j = v.toBitVec.getLsbD (j + 1) := by
  rw [Int64.toBitVec_shiftRight]
  have e : (Int64.toBitVec 1).smod 64 = 1#64 := by decide
  rw [e]
  have e1 : (1#64).toNat = 1 := rfl
  rw [BitVec.sshiftRight_eq', e1, BitVec.getLsbD_sshiftRight]
  rw [decide_eq_false (by omega : ¬ 64 ≤ j), if_pos (by omega : 1 + j < 64), Nat.add_comm 1 j]
  rfl
theorem l_shr63 (v : Int64) (h : v.toBitVec.getLsbD 63 = false) : (v >>> (1 : Int64)).toBitVec.getLsbD 63 = false := by
  rw [Int64.toBitVec_shiftRight]
  have e : (Int64.toBitVec 1).smod 64 = 1#64 := by decide
  rw [e]
  have e1 : (1#64).toNat = 1 := rfl
  rw [BitVec.sshiftRight_eq', e1, BitVec.getLsbD_sshiftRight, if_neg (by decide), BitVec.msb_eq_getLsbD_last, h]
  rfl
theorem lb0 : ∀ j, j < 64 → ((0 : Int32).toInt64).toBitVec.getLsbD j = false := by decide
theorem lb1 : ∀ j, j < 64 → ((1 : Int32).toInt64).toBitVec.getLsbD j = decide (j = 0) := by decide
theorem lc1 : ∀ j, j < 64 → (1 : Int64).toBitVec.getLsbD j = decide (j = 0) := by decide
theorem lc0 : ∀ j, j < 64 → (0 : Int64).toBitVec.getLsbD j = false := by decide
theorem lm1 : ∀ j, j < 64 → ((1 - 1 : Int64) ^^^ (-1)).toBitVec.getLsbD j = true := by decide
theorem lm2 : ∀ j, j < 64 → ((1 - 0 : Int64) ^^^ (-1)).toBitVec.getLsbD j = !decide (j = 0) := by decide
theorem gcs {b : Bool} {st : List Bool} (j : Nat) : (b :: st).getD j false = if j = 0 then b else st.getD (j - 1) false := by
  match j with
  | 0 => rfl
  | j + 1 => rfl
theorem gd_ge {l : List Bool} {j : Nat} (h : l.length ≤ j) : l.getD j false = false := by
  rw [List.getD_eq_getElem?_getD, List.getElem?_eq_none h]
  rfl
theorem BST.hd {v : Int64} {st : List Bool} (h : BST v st) : v.toBitVec.getLsbD 0 = st.headD false := by
  rw [h 0 (by decide)]
  cases st <;> rfl
theorem BST.shr {v : Int64} {b : Bool} {st : List Bool} (h : BST v (b :: st)) (hl : st.length < 63) : BST (v >>> ((1 : Int32).toInt64 &&& 63)) st := by
  intro j hj
  rw [sh1]
  by_cases c : j = 63
  · subst c
    rw [l_shr63]
    · rw [gd_ge (by omega)]
    · rw [h 63 (by decide), gd_ge (by rw [List.length_cons]; omega)]
  · rw [l_shr v j (by omega), h (j + 1) (by omega)]
    rfl
theorem BST.push {v : Int64} {st : List Bool} (h : BST v st) (hl : st.length < 63) (b : Bool) : BST ((v <<< ((1 : Int32).toInt64 &&& 63)) ||| ((b2i b).toInt64)) (b :: st) := by
  intro j hj
  have e : ((b2i b).toInt64).toBitVec.getLsbD j = (b && decide (j = 0)) := by
    cases b
    · exact lb0 j hj
    · exact lb1 j hj
  rw [Int64.toBitVec_or, BitVec.getLsbD_or, sh1, l_shl v j hj, e, gcs]
  by_cases c : j = 0
  · rw [if_pos c, if_pos c, decide_eq_true c, Bool.false_or, Bool.and_true]
  · rw [if_neg c, if_neg c, decide_eq_false c, Bool.and_false, Bool.or_false, h (j - 1) (by omega)]
theorem BST.not {v : Int64} {b : Bool} {st : List Bool} (h : BST v (b :: st)) : BST (v ^^^ 1) ((!b) :: st) := by
  intro j hj
  rw [Int64.toBitVec_xor, BitVec.getLsbD_xor, h j hj, lc1 j hj, gcs, gcs]
  by_cases c : j = 0
  · rw [if_pos c, if_pos c, decide_eq_true c, Bool.xor_true]
  · rw [if_neg c, if_neg c, decide_eq_false c, Bool.xor_false]
theorem BST.and {v : Int64} {a b : Bool} {st : List Bool} (h : BST v (b :: a :: st)) (hl : st.length < 60) : BST ((v >>> ((1 : Int32).toInt64 &&& 63)) &&& ((1 - (v &&& 1)) ^^^ (-1))) ((a && b) :: st) := by
  intro j hj
  have s := h.shr (by rw [List.length_cons]; omega) j hj
  rw [l_top, h.hd]
  show (_ &&& ((1 - (if b = true then (1 : Int64) else 0)) ^^^ (-1))).toBitVec.getLsbD j = _
  rw [Int64.toBitVec_and, BitVec.getLsbD_and, s, gcs, gcs]
  cases b with
  | true =>
    rw [if_pos rfl, lm1 j hj, Bool.and_true, Bool.and_true]
  | false =>
    rw [if_neg Bool.false_ne_true, lm2 j hj, Bool.and_false]
    by_cases c : j = 0
    · rw [if_pos c, if_pos c, decide_eq_true c, Bool.not_true, Bool.and_false]
    · rw [if_neg c, if_neg c, decide_eq_false c, Bool.not_false, Bool.and_true]
theorem BST.or {v : Int64} {a b : Bool} {st : List Bool} (h : BST v (b :: a :: st)) (hl : st.length < 60) : BST ((v >>> ((1 : Int32).toInt64 &&& 63)) ||| (v &&& 1)) ((a || b) :: st) := by
  intro j hj
  have s := h.shr (by rw [List.length_cons]; omega) j hj
  rw [l_top, h.hd]
  show (_ ||| (if b = true then (1 : Int64) else 0)).toBitVec.getLsbD j = _
  rw [Int64.toBitVec_or, BitVec.getLsbD_or, s, gcs, gcs]
  cases b with
  | true =>
    rw [if_pos rfl, lc1 j hj, Bool.or_true]
    by_cases c : j = 0
    · rw [if_pos c, if_pos c, decide_eq_true c, Bool.or_true]
    · rw [if_neg c, if_neg c, decide_eq_false c, Bool.or_false]
  | false =>
    rw [if_neg Bool.false_ne_true, lc0 j hj, Bool.or_false, Bool.or_false]
theorem BST.zero : BST 0 [] := fun j hj => by rw [lc0 j hj]; rfl
theorem BST.top {v : Int64} {st : List Bool} (h : BST v st) : (condB .ne (lg_cmp (v &&& 1) 1) 0 = true → st.headD false = false) ∧ (condB .ne (lg_cmp (v &&& 1) 1) 0 = false → st.headD false = true) := by
  rw [l_top, h.hd]
  cases st.headD false with
  | true => exact ⟨fun e => absurd e (by decide), fun _ => rfl⟩
  | false => exact ⟨fun _ => rfl, fun e => absurd e (by decide)⟩
