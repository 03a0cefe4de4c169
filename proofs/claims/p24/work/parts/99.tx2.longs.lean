section JN99tx2longs
/-! What stands as bits in a long. -/
theorem i_dv {x y : Int32} (h1 : 0 ≤ x.toInt) (h2 : 0 < y.toInt) : (x / y).toInt = x.toInt / y.toInt := by
  have h3 := i_div h1 h2
  have hr := i32r x
  simp only [fI] at hr
  rw [Int32.toInt_div]
  have q1 : 0 ≤ x.toInt.tdiv y.toInt := Int.tdiv_nonneg h1 (by omega)
  have q2 : x.toInt.tdiv y.toInt ≤ x.toInt := Int.tdiv_le_self _ h1
  rw [bm32 (by omega) (by omega)]
  exact Int.tdiv_eq_ediv_of_nonneg h1
/-- the newest value is the lowest bit -/
def BST (v : Int64) (st : List Bool) : Prop := ∀ j, j < 64 → v.toBitVec.getLsbD j = st.getD j false
theorem l_top (v : Int64) : v &&& 1 = if v.toBitVec.getLsbD 0 = true then 1 else 0 := by
  apply Int64.toBitVec_inj.mp
  rw [Int64.toBitVec_and]
  show v.toBitVec &&& 1#64 = _
  rw [BitVec.and_one_eq_setWidth_ofBool_getLsbD]
  cases v.toBitVec.getLsbD 0 <;> rfl
theorem sh1 : ((1 : Int32).toInt64 &&& 63) = (1 : Int64) := by decide
theorem l_shl (v : Int64) (j : Nat) (hj : j < 64) : (v <<< (1 : Int64)).toBitVec.getLsbD j = if j = 0 then false else v.toBitVec.getLsbD (j - 1) := by
  rw [Int64.toBitVec_shiftLeft]
  have e : (Int64.toBitVec 1).smod 64 = 1#64 := by decide
  rw [e, BitVec.shiftLeft_eq', BitVec.getLsbD_shiftLeft]
  have e1 : (1#64).toNat = 1 := rfl
  rw [e1, decide_eq_true hj]
  by_cases c : j = 0
  · subst c
    rfl
  · rw [if_neg c, decide_eq_false (by omega : ¬ j < 1)]
    rfl
theorem l_shr (v : Int64) (j : Nat) (hj : j < 63) : (v >>> (1 : Int64)).toBitVec.getLsbD j = v.toBitVec.getLsbD (j + 1) := by
  rw [Int64.toBitVec_shiftRight]
  have e : (Int64.toBitVec 1).smod 64 = 1#64 := by decide
  rw [e]
  have e1 : (1#64).toNat = 1 := rfl
  rw [BitVec.sshiftRight_eq', e1, BitVec.getLsbD_sshiftRight]
  rw [decide_eq_false (by omega : ¬ 64 ≤ j), if_pos (by omega : 1 + j < 64), Nat.add_comm 1 j]
  rfl
theorem l_shr63 (v : Int64) (h : v.toBitVec.getLsbD 63 = false) : (v >>> (1 : Int64)).toBitVec.getLsbD 63 = false := by
  rw [Int64.toBitVec_shiftRight]
  have e : (Int64.toBitVec 1).smod 64 = 1#64 := by decide
  rw [e]
  have e1 : (1#64).toNat = 1 := rfl
  rw [BitVec.sshiftRight_eq', e1, BitVec.getLsbD_sshiftRight, if_neg (by decide), BitVec.msb_eq_getLsbD_last, h]
  rfl
theorem lb0 : ∀ j, j < 64 → ((0 : Int32).toInt64).toBitVec.getLsbD j = false := by decide
theorem lb1 : ∀ j, j < 64 → ((1 : Int32).toInt64).toBitVec.getLsbD j = decide (j = 0) := by decide
theorem lc1 : ∀ j, j < 64 → (1 : Int64).toBitVec.getLsbD j = decide (j = 0) := by decide
theorem lc0 : ∀ j, j < 64 → (0 : Int64).toBitVec.getLsbD j = false := by decide
theorem lm1 : ∀ j, j < 64 → ((1 - 1 : Int64) ^^^ (-1)).toBitVec.getLsbD j = true := by decide
theorem lm2 : ∀ j, j < 64 → ((1 - 0 : Int64) ^^^ (-1)).toBitVec.getLsbD j = !decide (j = 0) := by decide
theorem gcs {b : Bool} {st : List Bool} (j : Nat) : (b :: st).getD j false = if j = 0 then b else st.getD (j - 1) false := by
  match j with
  | 0 => rfl
  | j + 1 => rfl
theorem gd_ge {l : List Bool} {j : Nat} (h : l.length ≤ j) : l.getD j false = false := by
  rw [List.getD_eq_getElem?_getD, List.getElem?_eq_none h]
  rfl
theorem BST.hd {v : Int64} {st : List Bool} (h : BST v st) : v.toBitVec.getLsbD 0 = st.headD false := by
  rw [h 0 (by decide)]
  cases st <;> rfl
theorem BST.shr {v : Int64} {b : Bool} {st : List Bool} (h : BST v (b :: st)) (hl : st.length < 63) : BST (v >>> ((1 : Int32).toInt64 &&& 63)) st := by
  intro j hj
  rw [sh1]
  by_cases c : j = 63
  · subst c
    rw [l_shr63]
    · rw [gd_ge (by omega)]
    · rw [h 63 (by decide), gd_ge (by rw [List.length_cons]; omega)]
  · rw [l_shr v j (by omega), h (j + 1) (by omega)]
    rfl
theorem BST.push {v : Int64} {st : List Bool} (h : BST v st) (hl : st.length < 63) (b : Bool) : BST ((v <<< ((1 : Int32).toInt64 &&& 63)) ||| ((b2i b).toInt64)) (b :: st) := by
  intro j hj
  have e : ((b2i b).toInt64).toBitVec.getLsbD j = (b && decide (j = 0)) := by
    cases b
    · exact lb0 j hj
    · exact lb1 j hj
  rw [Int64.toBitVec_or, BitVec.getLsbD_or, sh1, l_shl v j hj, e, gcs]
  by_cases c : j = 0
  · rw [if_pos c, if_pos c, decide_eq_true c, Bool.false_or, Bool.and_true]
  · rw [if_neg c, if_neg c, decide_eq_false c, Bool.and_false, Bool.or_false, h (j - 1) (by omega)]
theorem BST.not {v : Int64} {b : Bool} {st : List Bool} (h : BST v (b :: st)) : BST (v ^^^ 1) ((!b) :: st) := by
  intro j hj
  rw [Int64.toBitVec_xor, BitVec.getLsbD_xor, h j hj, lc1 j hj, gcs, gcs]
  by_cases c : j = 0
  · rw [if_pos c, if_pos c, decide_eq_true c, Bool.xor_true]
  · rw [if_neg c, if_neg c, decide_eq_false c, Bool.xor_false]
theorem BST.and {v : Int64} {a b : Bool} {st : List Bool} (h : BST v (b :: a :: st)) (hl : st.length < 60) : BST ((v >>> ((1 : Int32).toInt64 &&& 63)) &&& ((1 - (v &&& 1)) ^^^ (-1))) ((a && b) :: st) := by
  intro j hj
  have s := h.shr (by rw [List.length_cons]; omega) j hj
  rw [l_top, h.hd]
  show (_ &&& ((1 - (if b = true then (1 : Int64) else 0)) ^^^ (-1))).toBitVec.getLsbD j = _
  rw [Int64.toBitVec_and, BitVec.getLsbD_and, s, gcs, gcs]
  cases b with
  | true =>
    rw [if_pos rfl, lm1 j hj, Bool.and_true, Bool.and_true]
  | false =>
    rw [if_neg Bool.false_ne_true, lm2 j hj, Bool.and_false]
    by_cases c : j = 0
    · rw [if_pos c, if_pos c, decide_eq_true c, Bool.not_true, Bool.and_false]
    · rw [if_neg c, if_neg c, decide_eq_false c, Bool.not_false, Bool.and_true]
theorem BST.or {v : Int64} {a b : Bool} {st : List Bool} (h : BST v (b :: a :: st)) (hl : st.length < 60) : BST ((v >>> ((1 : Int32).toInt64 &&& 63)) ||| (v &&& 1)) ((a || b) :: st) := by
  intro j hj
  have s := h.shr (by rw [List.length_cons]; omega) j hj
  rw [l_top, h.hd]
  show (_ ||| (if b = true then (1 : Int64) else 0)).toBitVec.getLsbD j = _
  rw [Int64.toBitVec_or, BitVec.getLsbD_or, s, gcs, gcs]
  cases b with
  | true =>
    rw [if_pos rfl, lc1 j hj, Bool.or_true]
    by_cases c : j = 0
    · rw [if_pos c, if_pos c, decide_eq_true c, Bool.or_true]
    · rw [if_neg c, if_neg c, decide_eq_false c, Bool.or_false]
  | false =>
    rw [if_neg Bool.false_ne_true, lc0 j hj, Bool.or_false, Bool.or_false]
theorem BST.zero : BST 0 [] := fun j hj => by rw [lc0 j hj]; rfl
theorem BST.top {v : Int64} {st : List Bool} (h : BST v st) : (condB .ne (lg_cmp (v &&& 1) 1) 0 = true → st.headD false = false) ∧ (condB .ne (lg_cmp (v &&& 1) 1) 0 = false → st.headD false = true) := by
  rw [l_top, h.hd]
  cases st.headD false with
  | true => exact ⟨fun e => absurd e (by decide), fun _ => rfl⟩
  | false => exact ⟨fun _ => rfl, fun e => absurd e (by decide)⟩
end JN99tx2longs
section JN99tx3truth
/-! Whether a clause holds: as it is told, and the class's way. -/
/-- a test's truth -/
def ztst (s x : Int) : Bool := if s / 100 % 10 = 0 then decide (x < s % 100) else if s / 100 % 10 = 1 then decide (x = s % 100) else decide (s % 100 < x)
/-- marks in their order, one behind what they join -/
def zev : List Int → (Int → Int) → List Bool → List Bool
  | [], _, st => st
  | s :: l, fc, st => if s = -33 then (match st with | b :: r => zev l fc ((!b) :: r) | [] => []) else if s < 0 then (match st with | b :: a :: r => zev l fc ((if s = -38 then a && b else a || b) :: r) | _ => []) else zev l fc (ztst s (fc (s / 1000)) :: st)
def zso (e : List Int) (fc : Int → Int) : Bool := (zev e fc []).headD false
/-- what is asked of -/
def FCT (h : Hp) (fc : Int → Int) : Prop := ∀ j : Nat, j < 6 → (h.2.1 31 j).toInt = fc j
theorem trM_neg {s : Int} : (s = -33 → trM s = -1) ∧ (s = -38 → trM s = -2) ∧ (s = -124 → trM s = -3) ∧ (0 ≤ s → trM s = 300 * (s / 1000) + s % 1000) := by
  unfold trM
  refine ⟨fun e => by rw [if_pos e], fun e => by rw [if_neg (by omega), if_pos e], fun e => by rw [if_neg (by omega), if_neg (by omega), if_pos e], fun e => by rw [if_neg (by omega), if_neg (by omega), if_neg (by omega)]⟩
section TRU
variable {X : Scr} {h : Hp} {Q : Option Value → Hp → Prop}
theorem pass_ok {dp : Nat} (mI : Int32) (s : Int) (fc : Int → Int) (hm : mI.toInt = trM s) (h0 : 0 ≤ s) (h6 : s < 6000) (h2 : s / 100 % 10 ≤ 2) (hF : FCT h fc) (hs : HS h) (hQ : Q (some (.int (b2i (ztst s (fc (s / 1000)))))) h) : Ends X dp 61 0 [.int mI, .ref 31, .retAddr 0, .retAddr 0, .retAddr 0] [] h Q := by
  have e := trM_neg.2.2.2 h0
  rw [e] at hm
  refine w_pass mI hs ?_
  have j100 : (100 : Int32).toInt = 100 := rfl
  have j3 : (3 : Int32).toInt = 3 := rfl
  have j0 : (0 : Int32).toInt = 0 := rfl
  have j6 : (6 : Int32).toInt = 6 := rfl
  have a1 : (mI / 100).toInt = mI.toInt / 100 := i_dv (by omega) (by decide)
  have a2 : (mI / 100 / 3).toInt = mI.toInt / 100 / 3 := by rw [i_dv (by omega) (by decide), a1, j3]
  have a3 : (mI / 100 / 3 * 3).toInt = mI.toInt / 100 / 3 * 3 := by rw [i_mul (by rw [a2, j3]; omega) (by rw [a2, j3]; omega), a2, j3]
  have a4 : (mI / 100 - mI / 100 / 3 * 3).toInt = mI.toInt / 100 - mI.toInt / 100 / 3 * 3 := by rw [i_sub (by rw [a1, a3]; omega) (by rw [a1, a3]; omega), a1, a3]
  have a5 : (mI / 100 * 100).toInt = mI.toInt / 100 * 100 := by rw [i_mul (by rw [a1, j100]; omega) (by rw [a1, j100]; omega), a1, j100]
  have a6 : (mI - mI / 100 * 100).toInt = mI.toInt - mI.toInt / 100 * 100 := by rw [i_sub (by rw [a5]; omega) (by rw [a5]; omega), a5]
  have v1 : (mI / 100 / 3).toInt = s / 1000 := by omega
  have v2 : (mI / 100 - mI / 100 / 3 * 3).toInt = s / 100 % 10 := by omega
  have v3 : (mI - mI / 100 * 100).toInt = s % 100 := by omega
  generalize mI / 100 - mI / 100 / 3 * 3 = rl at v2
  generalize hd : mI / 100 / 3 = lt at v1
  generalize mI - mI / 100 * 100 = nb at v3
  have fv : (h.2.1 31 lt.toNatClampNeg).toInt = fc (s / 1000) := by
    have := hF lt.toInt.toNat (by omega)
    rw [show lt.toNatClampNeg = lt.toInt.toNat from rfl, this]
    congr 1
    omega
  rw [show lt.toNatClampNeg = lt.toInt.toNat from rfl] at fv ⊢
  generalize h.2.1 31 lt.toInt.toNat = x at fv ⊢
  unfold ztst at hQ
  refine ⟨fun e => ?_, fun _ => ⟨fun _ => ⟨inB_iff (by omega) (by omega), ⟨fun z => ⟨fun e => ?_, fun e => ?_⟩, fun z => ⟨fun e => ?_, fun e => ?_⟩, fun z => ⟨fun e => ?_, fun e => ?_⟩⟩⟩, fun e => ?_⟩⟩
  · exfalso
    have e : lt.toInt < (0 : Int32).toInt := of_decide_eq_true (cI e)
    omega
  · have e : x.toInt ≤ nb.toInt := of_decide_eq_true (cI e)
    rw [if_neg (by omega), if_neg (by omega), decide_eq_false (by omega)] at hQ
    exact hQ
  · have e : ¬ x.toInt ≤ nb.toInt := of_decide_eq_false (cI e)
    rw [if_neg (by omega), if_neg (by omega), decide_eq_true (by omega)] at hQ
    exact hQ
  · have e : nb.toInt ≤ x.toInt := of_decide_eq_true (cI e)
    rw [if_pos (by omega), decide_eq_false (by omega)] at hQ
    exact hQ
  · have e : ¬ nb.toInt ≤ x.toInt := of_decide_eq_false (cI e)
    rw [if_pos (by omega), decide_eq_true (by omega)] at hQ
    exact hQ
  · have e : ¬ x.toInt = nb.toInt := of_decide_eq_true (cI e)
    rw [if_neg (by omega), if_pos (by omega), decide_eq_false (by omega)] at hQ
    exact hQ
  · have e : ¬ ¬ x.toInt = nb.toInt := of_decide_eq_false (cI e)
    rw [if_neg (by omega), if_pos (by omega), decide_eq_true (by omega)] at hQ
    exact hQ
  · exfalso
    have e : ¬ lt.toInt < (6 : Int32).toInt := of_decide_eq_false (cI e)
    omega
theorem gdC {α : Type} {d x : α} {l : List α} (j : Nat) : (x :: l).getD (j + 1) d = l.getD j d := rfl
theorem tru_go {dp q : Nat} (hY : YB q) (fc : Int → Int) (hF : FCT h fc) (hs : HS h) (f t : Int32) (b : Nat) (ht : t.toInt = b) (hb : b ≤ 100) :
    ∀ (rest : List Int) (i : Nat) (iI : Int32) (v : Int64) (st : List Bool) (x y z : Value), iI.toInt = i → (∀ j, j < rest.length → (h.2.1 (q + 4) (i + j)).toInt = trM (rest.getD j 0)) → i + rest.length = b → BST v st → st.length ≤ 60 → pk rest st.length = some 1 → Q (some (.int (b2i ((zev rest fc st).headD false)))) h → Ends X (dp + 1) 59 10 [.ref q, .int f, .int t, .ref 31, .long v, .retAddr 0, .int iI, x, y, z] [] h Q
  | [], i, iI, v, st, x, y, z, hi, hm, hl, hv, hst, hp, hQ => by
    have hl : i = b := hl
    refine w_ytru1 hY f t v iI x y z hs ⟨fun _ => ⟨fun e => ?_, fun e => ?_⟩, fun e => ?_⟩
    · have := hv.top.1 e
      rw [show (zev [] fc st) = st from rfl, this] at hQ
      exact hQ
    · have := hv.top.2 e
      rw [show (zev [] fc st) = st from rfl, this] at hQ
      exact hQ
    · exfalso
      have e : ¬ t.toInt ≤ iI.toInt := of_decide_eq_false (cI e)
      omega
  | s :: rest, i, iI, v, st, x, y, z, hi, hm, hl, hv, hst, hp, hQ => by
    have hl : i + (rest.length + 1) = b := hl
    have j100 : (100 : Int32).toInt = 100 := rfl
    have n1 : (iI + 1).toInt = ((i + 1 : Nat) : Int) := by rw [i_add (by rw [i1]; omega) (by rw [i1]; omega), i1]; omega
    have c0 := hm 0 (by show 0 < rest.length + 1; omega)
    have c0 : (h.2.1 (q + 4) i).toInt = trM s := c0
    have nx : ∀ j, j < rest.length → (h.2.1 (q + 4) (i + 1 + j)).toInt = trM (rest.getD j 0) := fun j hj => by
      have := hm (j + 1) (by show j + 1 < rest.length + 1; omega)
      rw [gdC] at this
      rw [show i + 1 + j = i + (j + 1) by omega]
      exact this
    refine w_ytru1 hY f t v iI x y z hs ⟨fun e => ?_, fun _ => ⟨fun e => ?_, fun _ => ⟨inB_iff (by omega) (by omega), ?_⟩⟩⟩
    · exfalso
      have e : t.toInt ≤ iI.toInt := of_decide_eq_true (cI e)
      omega
    · exfalso
      have e : (100 : Int32).toInt ≤ iI.toInt := of_decide_eq_true (cI e)
      omega
    rw [show iI.toNatClampNeg = iI.toInt.toNat from rfl, show iI.toInt.toNat = i by omega]
    generalize h.2.1 (q + 4) i = mk at c0
    have jm1 : (-1 : Int32).toInt = -1 := rfl
    have jm2 : (-2 : Int32).toInt = -2 := rfl
    have jm3 : (-3 : Int32).toInt = -3 := rfl
    obtain ⟨t1, t2, t3, t4⟩ := @trM_neg s
    unfold pk at hp
    unfold zev at hQ
    refine ⟨fun e1 => ⟨fun e2 => ⟨fun e3 => ?_, fun e3 => ?_⟩, fun e2 => ?_⟩, fun e1 => ?_⟩
    · have e1 : ¬ mk.toInt = (-1 : Int32).toInt := of_decide_eq_true (cI e1)
      have e2 : ¬ mk.toInt = (-2 : Int32).toInt := of_decide_eq_true (cI e2)
      have e3 : ¬ mk.toInt = (-3 : Int32).toInt := of_decide_eq_true (cI e3)
      have g1 : ¬ s = -33 := fun q => by have := t1 q; omega
      have g2 : ¬ (s = -38 ∨ s = -124) := fun q => by rcases q with q | q; have := t2 q; omega; have := t3 q; omega
      rw [if_neg g1, if_neg g2] at hp
      have sh : st.length < 60 ∧ 0 ≤ s ∧ s < 6000 ∧ s / 100 % 10 ≤ 2 := by
        apply Decidable.byContradiction
        intro q
        rw [if_neg q] at hp
        cases hp
      rw [if_pos sh] at hp
      rw [if_neg g1, if_neg (by omega)] at hQ
      refine pass_ok mk s fc c0 sh.2.1 sh.2.2.1 sh.2.2.2 hF hs ⟨_, rfl, hs, fun e => ?_, fun e => ?_⟩
      · have e := cz e
        rw [e] at hQ
        exact tru_go hY fc hF hs f t b ht hb rest (i + 1) (iI + 1) _ _ _ _ _ n1 nx (by omega) (hv.push (by omega) false) (by show st.length + 1 ≤ 60; omega) hp hQ
      · have e := cn e
        rw [e] at hQ
        exact tru_go hY fc hF hs f t b ht hb rest (i + 1) (iI + 1) _ _ _ _ _ n1 nx (by omega) (hv.push (by omega) true) (by show st.length + 1 ≤ 60; omega) hp hQ
    · have e3 : ¬ ¬ mk.toInt = (-3 : Int32).toInt := of_decide_eq_false (cI e3)
      have g : s = -124 := by
        apply Decidable.byContradiction
        intro q
        by_cases a1 : s = -33
        · have := t1 a1; omega
        · by_cases a2 : s = -38
          · have := t2 a2; omega
          · rw [if_neg a1, if_neg (by omega)] at hp
            by_cases a3 : st.length < 60 ∧ 0 ≤ s ∧ s < 6000 ∧ s / 100 % 10 ≤ 2
            · have := t4 a3.2.1; omega
            · rw [if_neg a3] at hp
              cases hp
      rw [if_neg (by omega), if_pos (Or.inr g)] at hp
      match st, hst, hv, hp, hQ with
      | [], _, _, hp, _ => simp at hp
      | [_], _, _, hp, _ => simp at hp
      | b1 :: b2 :: st, hst, hv, hp, hQ =>
        rw [if_pos (by show 2 ≤ st.length + 1 + 1; omega)] at hp
        rw [if_neg (by omega), if_pos (by omega)] at hQ
        simp only at hQ
        rw [if_neg (by omega)] at hQ
        have hst : st.length + 1 + 1 ≤ 60 := hst
        exact tru_go hY fc hF hs f t b ht hb rest (i + 1) (iI + 1) _ _ _ _ _ n1 nx (by omega) (hv.or (by omega)) (by show st.length + 1 ≤ 60; omega) hp hQ
    · have e2 : ¬ ¬ mk.toInt = (-2 : Int32).toInt := of_decide_eq_false (cI e2)
      have g : s = -38 := by
        apply Decidable.byContradiction
        intro q
        by_cases a1 : s = -33
        · have := t1 a1; omega
        · by_cases a2 : s = -124
          · have := t3 a2; omega
          · rw [if_neg a1, if_neg (by omega)] at hp
            by_cases a3 : st.length < 60 ∧ 0 ≤ s ∧ s < 6000 ∧ s / 100 % 10 ≤ 2
            · have := t4 a3.2.1; omega
            · rw [if_neg a3] at hp
              cases hp
      rw [if_neg (by omega), if_pos (Or.inl g)] at hp
      match st, hst, hv, hp, hQ with
      | [], _, _, hp, _ => simp at hp
      | [_], _, _, hp, _ => simp at hp
      | b1 :: b2 :: st, hst, hv, hp, hQ =>
        rw [if_pos (by show 2 ≤ st.length + 1 + 1; omega)] at hp
        rw [if_neg (by omega), if_pos (by omega)] at hQ
        simp only at hQ
        rw [if_pos g] at hQ
        have hst : st.length + 1 + 1 ≤ 60 := hst
        exact tru_go hY fc hF hs f t b ht hb rest (i + 1) (iI + 1) _ _ _ _ _ n1 nx (by omega) (hv.and (by omega)) (by show st.length + 1 ≤ 60; omega) hp hQ
    · have e1 : ¬ ¬ mk.toInt = (-1 : Int32).toInt := of_decide_eq_false (cI e1)
      have g : s = -33 := by
        apply Decidable.byContradiction
        intro q
        rw [if_neg q] at hp
        by_cases a2 : s = -38 ∨ s = -124
        · rcases a2 with a2 | a2
          · have := t2 a2; omega
          · have := t3 a2; omega
        · rw [if_neg a2] at hp
          by_cases a3 : st.length < 60 ∧ 0 ≤ s ∧ s < 6000 ∧ s / 100 % 10 ≤ 2
          · have := t4 a3.2.1; omega
          · rw [if_neg a3] at hp
            cases hp
      rw [if_pos g] at hp
      rw [if_pos g] at hQ
      match st, hst, hv, hp, hQ with
      | [], _, _, hp, _ => simp at hp
      | b1 :: st, hst, hv, hp, hQ =>
        rw [if_pos (by show 1 ≤ st.length + 1; omega)] at hp
        simp only at hQ
        exact tru_go hY fc hF hs f t b ht hb rest (i + 1) (iI + 1) _ _ _ _ _ n1 nx (by omega) hv.not hst hp hQ
theorem maxx_ok {dp : Nat} (f : Int32) (hf : 0 ≤ f.toInt) (hs : HS h) (hQ : Q (some (.int f)) h) : Ends X dp 207 0 [.int f, .int 0] [] h Q := by
  have z0 : (0 : Int32).toInt = 0 := rfl
  refine w_max f 0 hs ⟨fun e => ?_, fun e => hQ⟩
  exfalso
  have e : f.toInt < (0 : Int32).toInt := of_decide_eq_true (cI e)
  omega
theorem tru_ok {dp q : Nat} (hY : YB q) (fc : Int → Int) (hF : FCT h fc) (hs : HS h) (f t : Int32) (a b : Nat) (hf : f.toInt = a) (ht : t.toInt = b) (hb : b ≤ 100) (e : List Int) (he : ∀ j, j < e.length → (h.2.1 (q + 4) (a + j)).toInt = trM (e.getD j 0)) (hl : a + e.length = b) (hp : pk e 0 = some 1) (hQ : Q (some (.int (b2i (zso e fc)))) h) : Ends X (dp + 1) 59 0 [.ref q, .int f, .int t, .ref 31, .retAddr 0, .retAddr 0, .retAddr 0, .retAddr 0, .retAddr 0, .retAddr 0] [] h Q :=
  w_ytru0 hY f t hs (maxx_ok f (by omega) hs ⟨_, rfl, hs, tru_go hY fc hF hs f t b ht hb e a f 0 [] _ _ _ hf he hl BST.zero (by decide) hp hQ⟩)
end TRU
end JN99tx3truth
section JN99tx4sums
/-! Sums of clauses, what is asked of: the class's way. -/
/-- the marks of a clause -/
def zsl (m : List Int) (c : Cl) : List Int := (m.drop c.2.2.1).take (c.2.2.2 - c.2.2.1)
def zsum (m : List Int) (fc : Int → Int) (w : Int) : List Cl → Int
  | [] => 0
  | c :: l => (if c.1 = w ∧ zso (zsl m c) fc = true then c.2.1 else 0) + zsum m fc w l
def zhas (w : Int) : List Cl → Bool
  | [] => false
  | c :: l => if c.1 = w then true else zhas w l
theorem zsl_eq {pre e post : List Int} {c : Cl} (h1 : pre.length = c.2.2.1) (h2 : c.2.2.1 + e.length = c.2.2.2) : zsl (pre ++ (e ++ post)) c = e := by
  unfold zsl
  rw [← h1, ← h2, ← h1, List.drop_left, show pre.length + e.length - pre.length = e.length by omega, List.take_left]
theorem dropC {cs : List Cl} {c : Nat} (h : c < cs.length) : cs.drop c = cs.getD c cl0 :: cs.drop (c + 1) := by
  rw [List.drop_eq_getElem_cons h, List.getD_eq_getElem?_getD, List.getElem?_eq_getElem h]
  rfl
theorem zsum_b {m : List Int} {fc : Int → Int} {w : Int} : ∀ {l : List Cl}, (∀ c ∈ l, 0 ≤ c.2.1 ∧ c.2.1 ≤ 99) → 0 ≤ zsum m fc w l ∧ zsum m fc w l ≤ 99 * (l.length : Int)
  | [], _ => ⟨Int.le_refl _, Int.le_refl _⟩
  | c :: l, h => by
    have i := zsum_b (m := m) (fc := fc) (w := w) (l := l) (fun x hx => h x (List.mem_cons_of_mem _ hx))
    have j := h c (List.mem_cons_self ..)
    show 0 ≤ (if _ then _ else (0 : Int)) + _ ∧ (if _ then _ else (0 : Int)) + _ ≤ 99 * ((l.length + 1 : Nat) : Int)
    split <;> omega
theorem wf_mem {cs : List Cl} {m : List Int} (hw : WFC cs m) : ∀ c ∈ cs, 0 ≤ c.2.1 ∧ c.2.1 ≤ 99 := by
  intro c hc
  obtain ⟨i, hi, e⟩ := List.mem_iff_getElem.mp hc
  have := hw.1 i hi
  rw [List.getD_eq_getElem?_getD, List.getElem?_eq_getElem hi] at this
  simp only [Option.getD_some] at this
  rw [e] at this
  exact ⟨this.2.2.2.1, this.2.2.2.2.1⟩
theorem cJ {q : ClassFile.Cond} {x y : Int32} {b : Bool} (h : condB q x y = b) : cndI q x.toInt y.toInt = b := cI h
section SUMS
variable {X : Scr} {q : Nat} {h : Hp} {Q : Option Value → Hp → Prop}
theorem yhas_go (hY : YB q) {cs : List Cl} {m : List Int} (hr : RY q h cs m) (hl : cs.length ≤ 10) (hs : HS h) (w : Int32) {dp : Nat} : ∀ (k c : Nat) (cI : Int32), c + k = cs.length → cI.toInt = c → Q (some (.int (b2i (zhas w.toInt (cs.drop c))))) h → Ends X dp 57 2 [.ref q, .int w, .int cI] [] h Q
  | k, c, cI, hk, hc, hQ => by
    have j10 : (10 : Int32).toInt = 10 := rfl
    have r1 := hr.1
    refine w_yhas1 hY w cI hs ⟨fun e => ?_, fun e => ⟨fun e2 => ?_, fun _ => ⟨inB_iff (by omega) ?_, fun e3 => ?_, fun e3 => ?_⟩⟩⟩
    · have e : (h.2.1 q 0).toInt ≤ cI.toInt := of_decide_eq_true (cJ e)
      rw [List.drop_eq_nil_of_le (by omega)] at hQ
      exact hQ
    · exfalso
      have e : ¬ (h.2.1 q 0).toInt ≤ cI.toInt := of_decide_eq_false (cJ e)
      have e2 : (10 : Int32).toInt ≤ cI.toInt := of_decide_eq_true (cJ e2)
      omega
    · have e : ¬ (h.2.1 q 0).toInt ≤ cI.toInt := of_decide_eq_false (cJ e)
      omega
    all_goals
      have e : ¬ (h.2.1 q 0).toInt ≤ cI.toInt := of_decide_eq_false (cJ e)
      have hlt : c < cs.length := by omega
      rw [show cI.toNatClampNeg = cI.toInt.toNat from rfl, show cI.toInt.toNat = c by omega] at e3
      have x := (hr.2.1 c hlt).1
      rw [dropC hlt] at hQ
      unfold zhas at hQ
    · have e3 : ¬ (h.2.1 (q + 1) c).toInt = w.toInt := of_decide_eq_true (cJ e3)
      rw [if_neg (by omega)] at hQ
      match k, hk with
      | 0, hk => omega
      | k + 1, hk => exact yhas_go hY hr hl hs w k (c + 1) (cI + 1) (by omega) (by rw [i_add (by rw [i1]; omega) (by rw [i1]; omega), i1]; omega) hQ
    · have e3 : ¬ ¬ (h.2.1 (q + 1) c).toInt = w.toInt := of_decide_eq_false (cJ e3)
      rw [if_pos (by omega)] at hQ
      exact hQ
theorem yhas_ok (hY : YB q) {cs : List Cl} {m : List Int} (hr : RY q h cs m) (hl : cs.length ≤ 10) (hs : HS h) (w : Int32) {dp : Nat} (hQ : Q (some (.int (b2i (zhas w.toInt cs)))) h) : Ends X dp 57 0 [.ref q, .int w, .retAddr 0] [] h Q :=
  w_yhas0 hY w hs (yhas_go hY hr hl hs w cs.length 0 0 (by omega) rfl hQ)
theorem ytog_go (hY : YB q) {cs : List Cl} {m : List Int} (hr : RY q h cs m) (hw : WFC cs m) (hl : cs.length ≤ 10) (hm : m.length ≤ 100) (fc : Int → Int) (hF : FCT h fc) (hs : HS h) (w : Int32) {dp : Nat} : ∀ (k c : Nat) (cI sI fI : Int32) (S : Int), c + k = cs.length → cI.toInt = c → sI.toInt = S → 0 ≤ S → S ≤ 99 * c → fI.toInt = ((if c = 0 then 0 else (cs.getD (c - 1) cl0).2.2.2 : Nat) : Int) → (∀ r : Int32, r.toInt = S + zsum m fc w.toInt (cs.drop c) → Q (some (.int r)) h) → Ends X (dp + 1 + 1) 58 8 [.ref q, .int w, .ref 31, .int sI, .int fI, .int cI] [] h Q
  | k, c, cI, sI, fI, S, hk, hc, hS, h0, h9, hf, hQ => by
    have j10 : (10 : Int32).toInt = 10 := rfl
    have r1 := hr.1
    have ib : ¬ (h.2.1 q 0).toInt ≤ cI.toInt → inB cI 10 = true := fun e => inB_iff (by omega) (by omega)
    refine w_ytog1 hY w sI fI cI hs ⟨fun e => ?_, fun e => ⟨fun e2 => ?_, fun _ => ⟨ib (of_decide_eq_false (cJ e)), fun e3 => ⟨ib (of_decide_eq_false (cJ e)), ?_⟩, fun e3 => ⟨ib (of_decide_eq_false (cJ e)), ?_⟩⟩⟩⟩
    · have e : (h.2.1 q 0).toInt ≤ cI.toInt := of_decide_eq_true (cJ e)
      rw [List.drop_eq_nil_of_le (by omega)] at hQ
      exact hQ sI (by rw [hS]; show S = S + 0; omega)
    · exfalso
      have e : ¬ (h.2.1 q 0).toInt ≤ cI.toInt := of_decide_eq_false (cJ e)
      have e2 : (10 : Int32).toInt ≤ cI.toInt := of_decide_eq_true (cJ e2)
      omega
    all_goals
      have e : ¬ (h.2.1 q 0).toInt ≤ cI.toInt := of_decide_eq_false (cJ e)
      have hlt : c < cs.length := by omega
      rw [show cI.toNatClampNeg = cI.toInt.toNat from rfl, show cI.toInt.toNat = c by omega] at e3 ⊢
      obtain ⟨x1, x2, x3⟩ := hr.2.1 c hlt
      obtain ⟨u1, u2, u3, u4, u5, pre, ee, post, p1, p2, p3, p4⟩ := hw.1 c hlt
      have n1 : (cI + 1).toInt = ((c + 1 : Nat) : Int) := by rw [i_add (by rw [i1]; omega) (by rw [i1]; omega), i1]; omega
      have nf : (h.2.1 (q + 3) c).toInt = ((if c + 1 = 0 then 0 else (cs.getD (c + 1 - 1) cl0).2.2.2 : Nat) : Int) := by rw [if_neg (by omega), show c + 1 - 1 = c by omega]; exact x3
      rw [dropC hlt] at hQ
      unfold zsum at hQ
    · have e3 : ¬ (h.2.1 (q + 1) c).toInt = w.toInt := of_decide_eq_true (cJ e3)
      rw [if_neg (fun z => e3 (by rw [x1]; exact z.1))] at hQ
      match k, hk with
      | 0, hk => omega
      | k + 1, hk => exact ytog_go hY hr hw hl hm fc hF hs w k (c + 1) (cI + 1) sI _ S (by omega) n1 hS h0 (by omega) nf (fun r hr' => hQ r (by omega))
    · have e3 : ¬ ¬ (h.2.1 (q + 1) c).toInt = w.toInt := of_decide_eq_false (cJ e3)
      have e3 := Decidable.not_not.mp e3
      have sl : zsl m (cs.getD c cl0) = ee := by rw [p1]; exact zsl_eq p2 p3
      rw [sl] at hQ
      have ml : m.length = pre.length + (ee.length + post.length) := by rw [p1, List.length_append, List.length_append]
      have mk : ∀ j, j < ee.length → (h.2.1 (q + 4) ((cs.getD c cl0).2.2.1 + j)).toInt = trM (ee.getD j 0) := fun j hj => by
        rw [hr.2.2 _ (by omega), p1, ← p2]
        congr 1
        rw [List.getD_eq_getElem?_getD, List.getElem?_append_right (by omega), show pre.length + j - pre.length = j by omega, List.getElem?_append_left hj, ← List.getD_eq_getElem?_getD]
      refine tru_ok hY fc hF hs fI (h.2.1 (q + 3) c) (cs.getD c cl0).2.2.1 (cs.getD c cl0).2.2.2 (by rw [hf, u1]) x3 (by omega) ee mk p3 p4 ⟨_, rfl, hs, fun e4 => ⟨ib e, ?_⟩, fun e4 => ⟨ib e, ib e, ?_⟩⟩
      · have e4 := cz e4
        rw [if_neg (fun z => by rw [e4] at z; exact absurd z.2 Bool.false_ne_true)] at hQ
        match k, hk with
        | 0, hk => omega
        | k + 1, hk => exact ytog_go hY hr hw hl hm fc hF hs w k (c + 1) (cI + 1) sI _ S (by omega) n1 hS h0 (by omega) nf (fun r hr' => hQ r (by omega))
      · have e4 := cn e4
        rw [if_pos ⟨by rw [← x1]; exact e3, e4⟩] at hQ
        have sv : (sI + h.2.1 (q + 2) c).toInt = S + (cs.getD c cl0).2.1 := by rw [i_add (by rw [hS, x2]; omega) (by rw [hS, x2]; omega), hS, x2]
        match k, hk with
        | 0, hk => omega
        | k + 1, hk => exact ytog_go hY hr hw hl hm fc hF hs w k (c + 1) (cI + 1) _ _ (S + (cs.getD c cl0).2.1) (by omega) n1 sv (by omega) (by omega) nf (fun r hr' => hQ r (by omega))
theorem ytog_ok (hY : YB q) {cs : List Cl} {m : List Int} (hr : RY q h cs m) (hw : WFC cs m) (hl : cs.length ≤ 10) (hm : m.length ≤ 100) (fc : Int → Int) (hF : FCT h fc) (hs : HS h) (w : Int32) {dp : Nat} (hQ : ∀ r : Int32, r.toInt = zsum m fc w.toInt cs → Q (some (.int r)) h) : Ends X (dp + 1 + 1) 58 0 [.ref q, .int w, .ref 31, .retAddr 0, .retAddr 0, .retAddr 0] [] h Q :=
  w_ytog0 hY w hs (ytog_go hY hr hw hl hm fc hF hs w cs.length 0 0 0 0 0 (by omega) rfl rfl (by decide) (by decide) rfl (fun r hr' => hQ r (by rw [hr', Int.zero_add]; rfl)))
end SUMS
end JN99tx4sums
section JN99tx5catch
/-! Those who catch: how far each reaches, how hard each holds; the class's way. -/
/-- what is asked of a person on a lane -/
def zfc (S : Nat → Nat → Int) (Y : Int) (p : Nat) (l : Int) : Int → Int := fun f => if f = 0 then (p : Int) else if f = 1 then S 0 p else if f = 2 then l else if f = 3 then S 4 p else if f = 4 then S 3 p else Y % 10
/-- the copy of the group holds S -/
def CG (h : Hp) (S : Nat → Nat → Int) (Y : Int) : Prop := (∀ p, p < 7 → (h.2.1 19 p).toInt = S 0 p ∧ (h.2.1 20 p).toInt = S 1 p ∧ (h.2.1 21 p).toInt = S 2 p ∧ (h.2.1 22 p).toInt = S 3 p ∧ (h.2.1 23 p).toInt = S 4 p) ∧ (∀ i, i < 28 → (h.2.1 24 i).toInt = S 5 i) ∧ (h.2.1 18 8).toInt = Y
def WLR : List (Nat × Nat) := [(31, 999)]
def WCX : List (Nat × Nat) := [(31, 999), (32, 999), (33, 999), (34, 999), (35, 999), (36, 999), (37, 999), (17, 10), (17, 11)]
theorem WCX_in {a k : Nat} (h : inW WCX a k = true) : (31 ≤ a ∧ a ≤ 37) ∨ (a = 17 ∧ (k = 10 ∨ k = 11)) := by
  simp only [inW, WCX, List.any_cons, List.any_nil, Bool.or_false, Bool.or_eq_true, Bool.and_eq_true, beq_iff_eq] at h
  omega
theorem WCX_n {a k : Nat} (h1 : ¬ (31 ≤ a ∧ a ≤ 37)) (h2 : ¬ (a = 17 ∧ (k = 10 ∨ k = 11))) : inW WCX a k = false := by
  cases c : inW WCX a k with
  | false => rfl
  | true =>
    rcases WCX_in c with c | c
    · exact absurd c h1
    · exact absurd c h2
theorem CG.fr {h h' : Hp} {S : Nat → Nat → Int} {Y : Int} (hg : CG h S Y) (hf : frm WCX h h') : CG h' S Y := by
  have f : ∀ a k, 18 ≤ a → a ≤ 24 → h'.2.1 a k = h.2.1 a k := fun a k h1 h2 => frI hf (WCX_n (by omega) (by omega))
  refine ⟨fun p hp => ?_, fun i hi => ?_, ?_⟩
  · rw [f 19 p (by decide) (by decide), f 20 p (by decide) (by decide), f 21 p (by decide) (by decide), f 22 p (by decide) (by decide), f 23 p (by decide) (by decide)]
    exact hg.1 p hp
  · rw [f 24 i (by decide) (by decide)]
    exact hg.2.1 i hi
  · rw [f 18 8 (by decide) (by decide)]
    exact hg.2.2
/-- the yard that is asked -/
def YR (q : Nat) (h : Hp) (cs : List Cl) (m : List Int) : Prop := h.2.2.2 17 1 = some q ∧ RY q h cs m
theorem YR.fr {q : Nat} {h h' : Hp} {cs : List Cl} {m : List Int} (hY : YB q) (hr : YR q h cs m) (hf : frm WCX h h') : YR q h' cs m := by
  have r := yb_rng hY
  have f : ∀ a k, 39 ≤ a → h'.2.1 a k = h.2.1 a k := fun a k h1 => frI hf (WCX_n (by omega) (by omega))
  refine ⟨by rw [(hf 17 1 (WCX_n (by decide) (by decide))).2.2]; exact hr.1, by rw [f q 0 (by omega)]; exact hr.2.1, fun c hc => ?_, fun j hj => by rw [f (q + 4) j (by omega)]; exact hr.2.2.2 j hj⟩
  rw [f (q + 1) c (by omega), f (q + 2) c (by omega), f (q + 3) c (by omega)]
  exact hr.2.2.1 c hc
theorem HI_full {h : Hp} {a k : Nat} {x : Int32} (hh : HI h) (hi : ivl a k = (-2147483648, 2147483647)) : HI (hpI h a k x) := by
  have hx := i32r x
  simp only [fI] at hx
  exact HI_put hh (by rw [hi]; exact hx.1) (by rw [hi]; exact hx.2)
theorem iv_full : ∀ a, 31 ≤ a → a ≤ 34 → ∀ k, k < 7 → ivl a k = (-2147483648, 2147483647) := by
  have : ((List.range 35).all (fun a => (List.range 7).all (fun k => decide (a < 31) || decide (ivl a k = (-2147483648, 2147483647))))) = true := by decide +kernel
  intro a h1 h2 k hk
  have := List.all_eq_true.mp (List.all_eq_true.mp this a (List.mem_range.mpr (by omega))) k (List.mem_range.mpr hk)
  rw [Bool.or_eq_true, decide_eq_true_eq, decide_eq_true_eq] at this
  rcases this with t | t
  · omega
  · exact t
theorem iv_full36 : ∀ k, k < 7 → ivl 36 k = (-2147483648, 2147483647) := by
  have : ((List.range 7).all (fun k => decide (ivl 36 k = (-2147483648, 2147483647)))) = true := by decide +kernel
  exact fun k hk => of_decide_eq_true (List.all_eq_true.mp this k (List.mem_range.mpr hk))
section CATCH
variable {X : Scr} {Q : Option Value → Hp → Prop}
theorem lrn_ok {dp : Nat} {h : Hp} {S : Nat → Nat → Int} {Y : Int} (pI lI : Int32) (p : Nat) (hp : pI.toInt = p) (h7 : p < 7) (hh : HI h) (hg : CG h S Y) (hQ : ∀ h', HI h' → frm WLR h h' → FCT h' (zfc S Y p lI.toInt) → Q none h') : Ends X (dp + 1) 24 0 [.ref 17, .int pI, .int lI] [] h Q := by
  have ip : inB pI 7 = true := inB_iff (by omega) (by omega)
  have en : pI.toNatClampNeg = p := by show pI.toInt.toNat = _; omega
  have k0 : (0 : Int32).toNatClampNeg = 0 := rfl
  have k1 : (1 : Int32).toNatClampNeg = 1 := rfl
  have k2 : (2 : Int32).toNatClampNeg = 2 := rfl
  have k3 : (3 : Int32).toNatClampNeg = 3 := rfl
  have k4 : (4 : Int32).toNatClampNeg = 4 := rfl
  have k5 : (5 : Int32).toNatClampNeg = 5 := rfl
  have f31 : ∀ k, k < 7 → ivl 31 k = (-2147483648, 2147483647) := iv_full 31 (by decide) (by decide)
  obtain ⟨g1, g2, g3, g4, g5⟩ := hg.1 p h7
  refine w_lrn pI lI hh.hs ⟨by decide, ip, by decide, by decide, ip, by decide, ip, by decide, ?_⟩
  rw [k0, k1, k2, k3, k4, en]
  have hh5 : HI (hpI (hpI (hpI (hpI (hpI h 31 0 pI) 31 1 (h.2.1 19 p)) 31 2 lI) 31 3 (h.2.1 23 p)) 31 4 (h.2.1 22 p)) := HI_full (HI_full (HI_full (HI_full (HI_full hh (f31 0 (by decide))) (f31 1 (by decide))) (f31 2 (by decide))) (f31 3 (by decide))) (f31 4 (by decide))
  have wi : ∀ k, inW WLR 31 k = true := fun k => by simp [inW, WLR]
  have fr5 : frm WLR h (hpI (hpI (hpI (hpI (hpI h 31 0 pI) 31 1 (h.2.1 19 p)) 31 2 lI) 31 3 (h.2.1 23 p)) 31 4 (h.2.1 22 p)) := frm_put (frm_put (frm_put (frm_put (frm_put frm_refl (wi _)) (wi _)) (wi _)) (wi _)) (wi _)
  have j10 : (10 : Int32).toInt = 10 := rfl
  refine fm_ok _ 10 hh5.hs (by decide) (fun r hr => ⟨r, rfl, hh5.hs, by decide, ?_⟩)
  rw [k5]
  refine hQ _ (HI_full hh5 (f31 5 (by decide))) (frm_put fr5 (wi _)) (fun j hj => ?_)
  unfold zfc
  match j, hj with
  | 0, _ =>
    rw [put_ne (by omega), put_ne (by omega), put_ne (by omega), put_ne (by omega), put_ne (by omega), put_at]
    exact hp
  | 1, _ =>
    rw [put_ne (by omega), put_ne (by omega), put_ne (by omega), put_ne (by omega), put_at]
    exact g1
  | 2, _ =>
    rw [put_ne (by omega), put_ne (by omega), put_ne (by omega), put_at]
    rfl
  | 3, _ =>
    rw [put_ne (by omega), put_ne (by omega), put_at]
    exact g5
  | 4, _ =>
    rw [put_ne (by omega), put_at]
    exact g4
  | 5, _ =>
    rw [put_at, hr, j10, hg.2.2]
    rfl
  | j + 6, h => omega
/-- whether a lane is within reach -/
def znr (lane rc : Int) (j : Nat) : Bool := decide ((if 0 ≤ (j : Int) - lane then (j : Int) - lane else -((j : Int) - lane)) ≤ rc)
def WRO : List (Nat × Nat) := [(32, 999)]
theorem WRO_in {k : Nat} : inW WRO 32 k = true := by simp [inW, WRO]
theorem rout_go {dp : Nat} (pI : Int32) (p : Nat) (hp : pI.toInt = p) (h7 : p < 7) (lane rc : Int) (l0 : 0 ≤ lane) (l6 : lane ≤ 6) : ∀ (n l : Nat) (lI : Int32) (h : Hp) (F : Nat → Nat → Bool), l + n = 7 → lI.toInt = l → HI h → (h.2.1 21 p).toInt = lane → (h.2.1 33 p).toInt = rc → (∀ j, j < 7 → BSET (h.2.1 32 j) (F j)) → (∀ h', HI h' → frm WRO h h' → (∀ j, j < 7 → BSET (h'.2.1 32 j) (fun x => F j x || (decide (l ≤ j) && (decide (x = p) && znr lane rc j)))) → Q none h') → Ends X (dp + 1) 12 2 [.ref 17, .int pI, .int lI] [] h Q
  | n, l, lI, h, F, hn, hl, hh, hla, hrc, hF, hQ => by
    have ip : inB pI 7 = true := inB_iff (by omega) (by omega)
    have en : pI.toNatClampNeg = p := by show pI.toInt.toNat = _; omega
    have j7 : (7 : Int32).toInt = 7 := rfl
    refine w_rout1 pI lI hh.hs ⟨fun e => ?_, fun e => ⟨ip, ?_⟩⟩
    · have e : (7 : Int32).toInt ≤ lI.toInt := of_decide_eq_true (cI e)
      refine hQ h hh frm_refl (fun j hj => (hF j hj).cg (fun x _ => ?_))
      rw [decide_eq_false (by omega : ¬ l ≤ j), Bool.false_and, Bool.or_false]
    · have e : ¬ (7 : Int32).toInt ≤ lI.toInt := of_decide_eq_false (cI e)
      have l7 : l < 7 := by omega
      rw [en]
      have dv : (lI - h.2.1 21 p).toInt = (l : Int) - lane := by rw [i_sub (by rw [hla]; omega) (by rw [hla]; omega), hla, hl]
      refine abs_ok hh.hs (by rw [dv]; omega) (fun r hr => ⟨r, rfl, hh.hs, ip, fun e2 => ?_, fun e2 => ⟨inB_iff (by omega) (by omega), inB_iff (by omega) (by omega), ?_⟩⟩)
      all_goals
        rw [dv] at hr
        have n1 : (lI + 1).toInt = ((l + 1 : Nat) : Int) := by rw [i_add (by rw [i1]; omega) (by rw [i1]; omega), i1]; omega
        obtain ⟨n, rfl⟩ : ∃ k, n = k + 1 := ⟨n - 1, by omega⟩
      · have e2 : (h.2.1 33 p).toInt < r.toInt := of_decide_eq_true (cI e2)
        have nz : znr lane rc l = false := by
          unfold znr
          rw [decide_eq_false]
          omega
        refine rout_go pI p hp h7 lane rc l0 l6 n (l + 1) (lI + 1) h F (by omega) n1 hh hla hrc hF (fun h' a1 a2 a3 => hQ h' a1 a2 (fun j hj => (a3 j hj).cg (fun x _ => ?_)))
        by_cases c : j = l
        · subst c
          rw [nz, Bool.and_false, Bool.and_false, Bool.and_false]
        · by_cases d : l ≤ j
          · rw [decide_eq_true d, decide_eq_true (by omega : l + 1 ≤ j)]
          · rw [decide_eq_false d, decide_eq_false (by omega : ¬ l + 1 ≤ j)]
      · have e2 : ¬ (h.2.1 33 p).toInt < r.toInt := of_decide_eq_false (cI e2)
        have nz : znr lane rc l = true := by
          unfold znr
          rw [decide_eq_true]
          omega
        rw [show lI.toNatClampNeg = lI.toInt.toNat from rfl, show lI.toInt.toNat = l by omega]
        refine rout_go pI p hp h7 lane rc l0 l6 n (l + 1) (lI + 1) _ (fun j x => F j x || (decide (j = l) && decide (x = p))) (by omega) n1 (HI_full hh (iv_full 32 (by decide) (by decide) l l7)) (by rw [put_ne (by omega)]; exact hla) (by rw [put_ne (by omega)]; exact hrc) (fun j hj => ?_) (fun h' a1 a2 a3 => hQ h' a1 (frm_trans (frm_put frm_refl WRO_in) a2) (fun j hj => (a3 j hj).cg (fun x _ => ?_)))
        · rw [put_if]
          by_cases c : j = l
          · rw [if_pos c]
            subst c
            refine ((hF j hj).or (BSET.one hp h7)).cg (fun x _ => ?_)
            rw [decide_eq_true (rfl : j = j), Bool.true_and]
          · rw [if_neg c]
            refine (hF j hj).cg (fun x _ => ?_)
            rw [decide_eq_false c, Bool.false_and, Bool.or_false]
        · show ((F j x || (decide (j = l) && decide (x = p))) || (decide (l + 1 ≤ j) && (decide (x = p) && znr lane rc j))) = _
          by_cases c : j = l
          · subst c
            rw [nz, decide_eq_true (rfl : j = j), decide_eq_true (Nat.le_refl j), decide_eq_false (by omega : ¬ j + 1 ≤ j), Bool.false_and, Bool.or_false, Bool.and_true]
          · rw [decide_eq_false c, Bool.false_and, Bool.or_false]
            by_cases d : l ≤ j
            · rw [decide_eq_true d, decide_eq_true (by omega : l + 1 ≤ j)]
            · rw [decide_eq_false d, decide_eq_false (by omega : ¬ l + 1 ≤ j)]
end CATCH
end JN99tx5catch
section JN99tx6meas
/-! All who catch, measured; the class's way. -/
def zreach (S : Nat → Nat → Int) (Y : Int) (cs : List Cl) (m : List Int) (p : Nat) : Int := if zhas 0 cs = true then zsum m (zfc S Y p (S 2 p)) 0 cs else 1
def zhold (S : Nat → Nat → Int) (Y : Int) (cs : List Cl) (m : List Int) (p : Nat) : Int := S 4 p + zsum m (zfc S Y p (S 2 p)) 1 cs
/-- who reaches a lane -/
def zin (S : Nat → Nat → Int) (Y : Int) (cs : List Cl) (m : List Int) (K : Nat → Bool) (hd : Bool) (l p : Nat) : Bool := K p && (hd || znr (S 2 p) (zreach S Y cs m p) l)
/-- ranges -/
def SRG (S : Nat → Nat → Int) : Prop := ∀ p, p < 7 → (0 ≤ S 0 p ∧ S 0 p ≤ 6) ∧ (0 ≤ S 1 p ∧ S 1 p ≤ 9) ∧ (0 ≤ S 2 p ∧ S 2 p ≤ 6) ∧ (0 ≤ S 3 p ∧ S 3 p ≤ 9) ∧ (0 ≤ S 4 p ∧ S 4 p ≤ 9)
/-- a yard that stands well -/
def YOK (cs : List Cl) (m : List Int) : Prop := WFC cs m ∧ cs.length ≤ 10 ∧ m.length ≤ 100
theorem YOK.b {cs : List Cl} {m : List Int} (h : YOK cs m) (fc : Int → Int) (w : Int) : 0 ≤ zsum m fc w cs ∧ zsum m fc w cs ≤ 990 := by
  have := zsum_b (m := m) (fc := fc) (w := w) (wf_mem h.1)
  have := h.2.1
  omega
def WMC : List (Nat × Nat) := [(31, 999), (32, 999), (33, 999), (34, 999)]
theorem WMC_X {h h' : Hp} (hf : frm WMC h h') : frm WCX h h' := frm_sub (V := WMC) (by decide) hf
theorem WLR_M {h h' : Hp} (hf : frm WLR h h') : frm WMC h h' := frm_sub (V := WLR) (by decide) hf
theorem WRO_M {h h' : Hp} (hf : frm WRO h h') : frm WMC h h' := frm_sub (V := WRO) (by decide) hf
theorem WMC_i {a k : Nat} (h : 31 ≤ a ∧ a ≤ 34) : inW WMC a k = true := by
  obtain ⟨h1, h2⟩ := h
  have : a = 31 ∨ a = 32 ∨ a = 33 ∨ a = 34 := by omega
  rcases this with rfl | rfl | rfl | rfl <;> simp [inW, WMC]
section MEAS
variable {X : Scr} {Q : Option Value → Hp → Prop}
theorem fil32_go {dp : Nat} (v : Int32) : ∀ (n i : Nat) (iI : Int32) (h : Hp), i + n = 7 → iI.toInt = i → HI h → (∀ j, j < i → h.2.1 32 j = v) → (∀ h', HI h' → frm WRO h h' → (∀ j, j < 7 → h'.2.1 32 j = v) → Q none h') → Ends X dp 221 5 [.ref 32, .int v, .int iI, .int 7] [] h Q
  | n, i, iI, h, hn, hi, hh, hF, hQ => by
    have j7 : (7 : Int32).toInt = 7 := rfl
    refine w_fil32l v iI 7 hh.hs ⟨fun e => ?_, fun e => ⟨inB_iff (by omega) ?_, ?_⟩⟩
    · have e : (7 : Int32).toInt ≤ iI.toInt := of_decide_eq_true (cI e)
      exact hQ h hh frm_refl (fun j hj => hF j (by omega))
    all_goals
      have e : ¬ (7 : Int32).toInt ≤ iI.toInt := of_decide_eq_false (cI e)
    · omega
    · rw [show iI.toNatClampNeg = iI.toInt.toNat from rfl, show iI.toInt.toNat = i by omega]
      obtain ⟨n, rfl⟩ : ∃ k, n = k + 1 := ⟨n - 1, by omega⟩
      refine fil32_go v n (i + 1) (iI + 1) _ (by omega) (by rw [i_add (by rw [i1]; omega) (by rw [i1]; omega), i1]; omega) (HI_full hh (iv_full 32 (by decide) (by decide) i (by omega))) (fun j hj => ?_) (fun h' a1 a2 a3 => hQ h' a1 (frm_trans (frm_put frm_refl WRO_in) a2) a3)
      rw [put_if]
      by_cases c : j = i
      · rw [if_pos c]
      · rw [if_neg c]
        exact hF j (by omega)
theorem fil32_ok {dp : Nat} {h : Hp} (v : Int32) (hh : HI h) (hQ : ∀ h', HI h' → frm WRO h h' → (∀ j, j < 7 → h'.2.1 32 j = v) → Q none h') : Ends X dp 221 0 [.ref 32, .int v, .retAddr 0, .retAddr 0] [] h Q :=
  w_fil32 v hh.hs (fil32_go v 7 0 0 h (by decide) rfl hh (fun j hj => absurd hj (Nat.not_lt_zero j)) hQ)
/-- behind the reach: the hold, and who reaches which lane -/
theorem mc_tail {dp q : Nat} (hY : YB q) {S : Nat → Nat → Int} {Y : Int} {cs : List Cl} {m : List Int} (hsr : SRG S) (hw : YOK cs m) (pI rc s23 : Int32) (p : Nat) (hp : pI.toInt = p) (h7 : p < 7) {h : Hp} (hh : HI h) (hg : CG h S Y) (hr : YR q h cs m) (hF : FCT h (zfc S Y p (S 2 p))) (hrc : rc.toInt = zreach S Y cs m p) (h23 : s23.toInt = S 4 p) (F : Nat → Nat → Bool) (hB : ∀ j, j < 7 → BSET (h.2.1 32 j) (F j)) {R : Hp → Prop}
    (hR : ∀ h', HI h' → frm WMC h h' → (∀ k, ¬ k = p → h'.2.1 33 k = h.2.1 33 k ∧ h'.2.1 34 k = h.2.1 34 k) → (h'.2.1 33 p).toInt = zreach S Y cs m p → (h'.2.1 34 p).toInt = zhold S Y cs m p → (∀ j, j < 7 → BSET (h'.2.1 32 j) (fun x => F j x || (decide (x = p) && znr (S 2 p) (zreach S Y cs m p) j))) → R h') :
    Ends X (dp + 1 + 1) 58 0 [.ref q, .int 1, .ref 31, .retAddr 0, .retAddr 0, .retAddr 0] [] (hpI h 33 pI.toNatClampNeg rc) (fun rv h18 => ∃ r19, rv = some (.int r19) ∧ HS h18 ∧ (inB pI 7 = true ∧ Ends X (dp + 1 + 1) 12 0 [.ref 17, .int pI, .retAddr 0] [] (hpI h18 34 pI.toNatClampNeg (s23 + r19)) (fun rv h22 => rv = none ∧ HS h22 ∧ R h22))) := by
  have en : pI.toNatClampNeg = p := by show pI.toInt.toNat = _; omega
  rw [en]
  have hh1 : HI (hpI h 33 p rc) := HI_full hh (iv_full 33 (by decide) (by decide) p h7)
  have f1 : frm WMC h (hpI h 33 p rc) := frm_put frm_refl (WMC_i (by decide))
  have r1 := hr.fr hY (WMC_X f1)
  have F1 : FCT (hpI h 33 p rc) (zfc S Y p (S 2 p)) := fun j hj => by rw [put_ne (by omega)]; exact hF j hj
  have sr := hsr p h7
  refine ytog_ok hY r1.2 hw.1 hw.2.1 hw.2.2 _ F1 hh1.hs 1 (fun r hr19 => ⟨r, rfl, hh1.hs, inB_iff (by omega) (by omega), ?_⟩)
  have bz := hw.b (zfc S Y p (S 2 p)) 1
  have one : (1 : Int32).toInt = 1 := rfl
  rw [one] at hr19
  have hv : (s23 + r).toInt = zhold S Y cs m p := by
    unfold zhold
    rw [i_add (by rw [h23, hr19]; omega) (by rw [h23, hr19]; omega), h23, hr19]
  generalize s23 + r = w at hv
  have hh2 : HI (hpI (hpI h 33 p rc) 34 p w) := HI_full hh1 (iv_full 34 (by decide) (by decide) p h7)
  have f2 : frm WMC h (hpI (hpI h 33 p rc) 34 p w) := frm_put f1 (WMC_i (by decide))
  have g2 := hg.fr (WMC_X f2)
  refine w_rout0 pI hh2.hs (rout_go pI p hp h7 (S 2 p) (zreach S Y cs m p) sr.2.2.1.1 sr.2.2.1.2 7 0 0 _ F (by decide) rfl hh2 (g2.1 p h7).2.2.1 (by rw [put_ne (by omega), put_at]; exact hrc) (fun j hj => by rw [put_ne (by omega), put_ne (by omega)]; exact hB j hj) (fun h' a1 a2 a3 => ⟨rfl, a1.hs, hR h' a1 (frm_trans f2 (WRO_M a2)) (fun k hk => ?_) ?_ ?_ (fun j hj => (a3 j hj).cg (fun x _ => ?_))⟩))
  · rw [frI a2 (a := 33) rfl, frI a2 (a := 34) rfl, put_ne (by omega), put_ne (by omega), put_ne (by omega), put_ne (by omega)]
    exact ⟨rfl, rfl⟩
  · rw [frI a2 (a := 33) rfl, put_ne (by omega), put_at]
    exact hrc
  · rw [frI a2 (a := 34) rfl, put_at]
    exact hv
  · rw [decide_eq_true (Nat.zero_le j), Bool.true_and]
/-- measured so far -/
def MCI (S : Nat → Nat → Int) (Y : Int) (cs : List Cl) (m : List Int) (K : Nat → Bool) (hd : Bool) (h : Hp) (p : Nat) : Prop := (∀ x, x < p → K x = true → (h.2.1 33 x).toInt = zreach S Y cs m x ∧ (h.2.1 34 x).toInt = zhold S Y cs m x) ∧ ∀ j, j < 7 → BSET (h.2.1 32 j) (fun x => (hd && K x) || (decide (x < p) && (K x && znr (S 2 x) (zreach S Y cs m x) j)))
theorem mc_go {dp q : Nat} (hY : YB q) {S : Nat → Nat → Int} {Y : Int} {cs : List Cl} {m : List Int} (hsr : SRG S) (hw : YOK cs m) (K : Nat → Bool) (hd : Bool) : ∀ (n p : Nat) (pI : Int32) (h : Hp), p + n = 7 → pI.toInt = p → HI h → CG h S Y → YR q h cs m → BSET (h.2.1 17 10) K → MCI S Y cs m K hd h p → (∀ h', HI h' → frm WMC h h' → MCI S Y cs m K hd h' 7 → Q none h') → Ends X (dp + 1 + 1 + 1) 11 24 [.ref 17, .int pI] [] h Q
  | n, p, pI, h, hn, hp, hh, hg, hr, hK, hM, hQ => by
    have j7 : (7 : Int32).toInt = 7 := rfl
    refine w_mc1 hY pI hh.hs ⟨fun e => ?_, fun e => ?_⟩
    · have e : (7 : Int32).toInt ≤ pI.toInt := of_decide_eq_true (cI e)
      have : p = 7 := by omega
      subst this
      exact hQ h hh frm_refl hM
    have e : ¬ (7 : Int32).toInt ≤ pI.toInt := of_decide_eq_false (cI e)
    have h7 : p < 7 := by omega
    have ip : inB pI 7 = true := inB_iff (by omega) (by omega)
    have en : pI.toNatClampNeg = p := by show pI.toInt.toNat = _; omega
    have n1 : (pI + 1).toInt = ((p + 1 : Nat) : Int) := by rw [i_add (by rw [i1]; omega) (by rw [i1]; omega), i1]; omega
    obtain ⟨n, rfl⟩ : ∃ k, n = k + 1 := ⟨n - 1, by omega⟩
    refine isin_ok hK hp h7 hh.hs ⟨_, rfl, hh.hs, fun c => ?_, fun c => ⟨ip, ?_⟩⟩
    · have c := cz c
      refine mc_go hY hsr hw K hd n (p + 1) (pI + 1) h (by omega) n1 hh hg hr hK ⟨fun x hx hk => ?_, fun j hj => (hM.2 j hj).cg (fun x _ => ?_)⟩ hQ
      · by_cases d : x = p
        · rw [d, c] at hk
          cases hk
        · exact hM.1 x (by omega) hk
      · by_cases d : x = p
        · rw [d, c]
          simp only [Bool.false_and, Bool.and_false]
        · by_cases d2 : x < p
          · rw [decide_eq_true d2, decide_eq_true (by omega : x < p + 1)]
          · rw [decide_eq_false d2, decide_eq_false (by omega : ¬ x < p + 1)]
    · have c := cn c
      rw [en]
      have la := (hg.1 p h7).2.2.1
      refine lrn_ok pI (h.2.1 21 p) p hp h7 hh hg (fun h1 a1 a2 a3 => ⟨rfl, a1.hs, ?_⟩)
      rw [la] at a3
      have f1 := WLR_M a2
      have g1 := hg.fr (WMC_X f1)
      have r1 := hr.fr hY (WMC_X f1)
      have hB : ∀ j, j < 7 → BSET (h1.2.1 32 j) (fun x => (hd && K x) || (decide (x < p) && (K x && znr (S 2 x) (zreach S Y cs m x) j))) := fun j hj => by rw [frI a2 (a := 32) rfl]; exact hM.2 j hj
      have s23 := (g1.1 p h7).2.2.2.2
      -- how it goes on behind one that was measured
      have next : ∀ h', HI h' → frm WMC h1 h' → (∀ k, ¬ k = p → h'.2.1 33 k = h1.2.1 33 k ∧ h'.2.1 34 k = h1.2.1 34 k) → (h'.2.1 33 p).toInt = zreach S Y cs m p → (h'.2.1 34 p).toInt = zhold S Y cs m p → (∀ j, j < 7 → BSET (h'.2.1 32 j) (fun x => ((hd && K x) || (decide (x < p) && (K x && znr (S 2 x) (zreach S Y cs m x) j))) || (decide (x = p) && znr (S 2 p) (zreach S Y cs m p) j))) → Ends X (dp + 1 + 1 + 1) 11 24 [.ref 17, .int (pI + 1)] [] h' Q := by
        intro h' b1 b2 b3 b4 b5 b6
        have f2 := frm_trans f1 b2
        refine mc_go hY hsr hw K hd n (p + 1) (pI + 1) h' (by omega) n1 b1 (hg.fr (WMC_X f2)) (hr.fr hY (WMC_X f2)) (by rw [frI f2 (a := 17) rfl]; exact hK) ⟨fun x hx hk => ?_, fun j hj => (b6 j hj).cg (fun x _ => ?_)⟩ (fun h'' d1 d2 d3 => hQ h'' d1 (frm_trans f2 d2) d3)
        · by_cases d : x = p
          · subst d
            exact ⟨b4, b5⟩
          · rw [(b3 x d).1, (b3 x d).2, frI a2 (a := 33) rfl, frI a2 (a := 34) rfl]
            exact hM.1 x (by omega) hk
        · by_cases d : x = p
          · subst d
            rw [c, decide_eq_false (Nat.lt_irrefl x), decide_eq_true (rfl : x = x), decide_eq_true (by omega : x < x + 1)]
            simp only [Bool.false_and, Bool.or_false, Bool.true_and]
          · rw [decide_eq_false d, Bool.false_and, Bool.or_false]
            by_cases d2 : x < p
            · rw [decide_eq_true d2, decide_eq_true (by omega : x < p + 1)]
            · rw [decide_eq_false d2, decide_eq_false (by omega : ¬ x < p + 1)]
      refine ⟨r1.1, yhas_ok hY r1.2 hw.2.1 a1.hs 0 ⟨_, rfl, a1.hs, fun c2 => ⟨ip, ip, (r1.fr hY (WMC_X (frm_put frm_refl (WMC_i (by decide))))).1, ?_⟩, fun c2 => ⟨r1.1, ?_⟩⟩⟩
      · have c2 := cz c2
        have hrc : (1 : Int32).toInt = zreach S Y cs m p := by
          unfold zreach
          rw [show zhas (0 : Int) cs = false from c2, if_neg Bool.false_ne_true]
          rfl
        have mt := mc_tail (X := X) (dp := dp) hY hsr hw pI 1 (h1.2.1 23 p) p hp h7 a1 g1 r1 a3 hrc s23 _ hB next
        rw [en] at mt
        exact mt
      · have c2 := cn c2
        refine ytog_ok hY r1.2 hw.1 hw.2.1 hw.2.2 _ a3 a1.hs 0 (fun r hr' => ⟨r, rfl, a1.hs, ip, ip, (r1.fr hY (WMC_X (frm_put frm_refl (WMC_i (by decide))))).1, ?_⟩)
        have hrc : r.toInt = zreach S Y cs m p := by
          unfold zreach
          rw [show zhas (0 : Int) cs = true from c2, if_pos rfl]
          exact hr'
        have mt := mc_tail (X := X) (dp := dp) hY hsr hw pI r (h1.2.1 23 p) p hp h7 a1 g1 r1 a3 hrc s23 _ hB next
        rw [en] at mt
        exact mt
theorem mc_ok {dp q : Nat} (hY : YB q) {S : Nat → Nat → Int} {Y : Int} {cs : List Cl} {m : List Int} (hsr : SRG S) (hw : YOK cs m) (K : Nat → Bool) (hd : Bool) {h : Hp} (hh : HI h) (hg : CG h S Y) (hr : YR q h cs m) (hK : BSET (h.2.1 17 10) K) (hhd : (h.2.1 17 12) = b2i hd) (hQ : ∀ h', HI h' → frm WMC h h' → (∀ x, x < 7 → K x = true → (h'.2.1 33 x).toInt = zreach S Y cs m x ∧ (h'.2.1 34 x).toInt = zhold S Y cs m x) → (∀ j, j < 7 → BSET (h'.2.1 32 j) (zin S Y cs m K hd j)) → Q none h') : Ends X (dp + 1 + 1 + 1) 11 0 [.ref 17, .retAddr 0] [] h Q := by
  have go : ∀ h1, HI h1 → frm WRO h h1 → (∀ j, j < 7 → BSET (h1.2.1 32 j) (fun x => hd && K x)) → Ends X (dp + 1 + 1 + 1) 11 24 [.ref 17, .int 0] [] h1 Q := by
    intro h1 a1 a2 a3
    have f1 := WRO_M a2
    refine mc_go hY hsr hw K hd 7 0 0 h1 (by decide) rfl a1 (hg.fr (WMC_X f1)) (hr.fr hY (WMC_X f1)) (by rw [frI a2 (a := 17) rfl]; exact hK) ⟨fun x hx => absurd hx (Nat.not_lt_zero x), fun j hj => (a3 j hj).cg (fun x _ => ?_)⟩ (fun h' b1 b2 b3 => hQ h' b1 (frm_trans f1 b2) b3.1 (fun j hj => (b3.2 j hj).cg (fun x hx => ?_)))
    · rw [decide_eq_false (Nat.not_lt_zero x), Bool.false_and, Bool.or_false]
    · unfold zin
      rw [decide_eq_true hx, Bool.true_and]
      cases hd <;> cases K x <;> simp
  refine w_mc0 hh.hs ⟨fun e => fil32_ok 0 hh (fun h1 a1 a2 a3 => ⟨rfl, a1.hs, go h1 a1 a2 (fun j hj => ?_)⟩), fun e => fil32_ok _ hh (fun h1 a1 a2 a3 => ⟨rfl, a1.hs, go h1 a1 a2 (fun j hj => ?_)⟩)⟩
  all_goals rw [hhd] at e
  · have e := cz e
    rw [a3 j hj]
    exact BSET.zero.cg (fun x _ => by rw [e, Bool.false_and])
  · have e := cnF e
    rw [a3 j hj]
    exact hK.cg (fun x _ => by rw [e, Bool.true_and])
end MEAS
end JN99tx6meas
section JN99tx7ways
/-! Which way each goes; the class's way. -/
def zbt (S : Nat → Nat → Int) (f : Option Nat) (o : Nat) : Bool := match f with
  | none => true
  | some g => decide (S 4 g < S 4 o)
/-- the strongest of the others who run, among the first so many -/
def zsh (S : Nat → Nat → Int) (R : Nat → Bool) (p : Nat) : Nat → Option Nat
  | 0 => none
  | o + 1 => if ((R o && !decide (o = p)) && zbt S (zsh S R p o) o) = true then some o else zsh S R p o
def zshl (S : Nat → Nat → Int) (R : Nat → Bool) (p : Nat) (n : Nat) : Int := match zsh S R p n with
  | none => S 2 p
  | some o => S 2 o
def apt (a b : Int) : Int := if 0 ≤ a - b then a - b else -(a - b)
/-- where fewest reach, nearest first -/
def zsk (M : Nat → Nat) (own : Int) : Nat → Nat × Nat
  | 0 => (0, 99)
  | l + 1 => if (zsk M own l).2 < M l ∨ (M l = (zsk M own l).2 ∧ apt (zsk M own l).1 own ≤ apt l own) then zsk M own l else (l, M l)
/-- the way of one, as it is -/
def zway (S : Nat → Nat → Int) (Y : Int) (R : Nat → Bool) (M : Nat → Nat) (p : Nat) : Int := if S 0 p = 1 ∨ S 0 p = 4 then (if S 2 p ≤ 3 then 0 else 6) else if S 0 p = 2 then zshl S R p 7 else if S 0 p = 5 then (zsk M (S 2 p) 7).1 else if S 0 p = 6 then S 5 (4 * p + (Y % 4).toNat) else S 2 p
theorem zsk_b (M : Nat → Nat) (hM : ∀ l, M l ≤ 7) (own : Int) : ∀ l, (zsk M own l).1 ≤ 6 + l ∧ (0 < l → (zsk M own l).1 < l ∧ (zsk M own l).2 ≤ 7)
  | 0 => ⟨Nat.zero_le _, fun h => absurd h (Nat.lt_irrefl 0)⟩
  | l + 1 => by
    have i := zsk_b M hM own l
    have m := hM l
    unfold zsk
    split
    · rename_i c
      refine ⟨by omega, fun _ => ?_⟩
      by_cases z : l = 0
      · subst z
        unfold zsk at c
        simp only at c
        omega
      · have := i.2 (by omega)
        omega
    · exact ⟨by show l ≤ _; omega, fun _ => ⟨by show l < _; omega, m⟩⟩
section WAYS
variable {X : Scr} {Q : Option Value → Hp → Prop} {h : Hp}
theorem str_go {dp : Nat} {S : Nat → Nat → Int} {Y : Int} (hsr : SRG S) (hg : CG h S Y) (hh : HI h) (R : Nat → Bool) (pI oI : Int32) (p : Nat) (h7 : p < 7) (ho : BSET oI (fun x => R x && !decide (x = p))) (hQ : ∀ r : Int32, r.toInt = zshl S R p 7 → Q (some (.int r)) h) : ∀ (n q : Nat) (qI sI lI : Int32), q + n = 7 → qI.toInt = q → sI.toInt = (match zsh S R p q with | none => -1 | some g => S 4 g) → lI.toInt = zshl S R p q → Ends X (dp + 1) 16 27 [.ref 17, .int pI, .int oI, .int sI, .int lI, .int qI] [] h Q
  | n, q, qI, sI, lI, hn, hq, hs, hl => by
    have j7 : (7 : Int32).toInt = 7 := rfl
    refine w_str1 pI oI sI lI qI hh.hs ⟨fun e => ?_, fun e => ?_⟩
    · have e : (7 : Int32).toInt ≤ qI.toInt := of_decide_eq_true (cI e)
      have : q = 7 := by omega
      subst this
      exact hQ lI hl
    have e : ¬ (7 : Int32).toInt ≤ qI.toInt := of_decide_eq_false (cI e)
    have q7 : q < 7 := by omega
    have iq : inB qI 7 = true := inB_iff (by omega) (by omega)
    have en : qI.toNatClampNeg = q := by show qI.toInt.toNat = _; omega
    have n1 : (qI + 1).toInt = ((q + 1 : Nat) : Int) := by rw [i_add (by rw [i1]; omega) (by rw [i1]; omega), i1]; omega
    obtain ⟨n, rfl⟩ : ∃ k, n = k + 1 := ⟨n - 1, by omega⟩
    obtain ⟨g1, g2, g3, g4, g5⟩ := hg.1 q q7
    have sr := (hsr q q7).2.2.2.2
    refine isin_ok ho hq q7 hh.hs ⟨_, rfl, hh.hs, fun c => ?_, fun c => ⟨iq, fun c2 => ?_, fun c2 => ⟨iq, iq, ?_⟩⟩⟩
    · have c : (R q && !decide (q = p)) = false := cz c
      have st : zsh S R p (q + 1) = zsh S R p q := by
        rw [zsh, if_neg]
        intro z
        rw [c, Bool.false_and] at z
        exact absurd z Bool.false_ne_true
      exact str_go hsr hg hh R pI oI p h7 ho hQ n (q + 1) (qI + 1) sI lI (by omega) n1 (by rw [st]; exact hs) (by unfold zshl; rw [st]; exact hl)
    all_goals
      have c : (R q && !decide (q = p)) = true := cn c
      rw [en] at c2
    · have c2 : (h.2.1 23 q).toInt ≤ sI.toInt := of_decide_eq_true (cI c2)
      rw [g5] at c2
      have st : zsh S R p (q + 1) = zsh S R p q := by
        rw [zsh, if_neg]
        intro z
        rw [c, Bool.true_and] at z
        cases hz : zsh S R p q with
        | none =>
          rw [hz] at hs
          simp only at hs
          omega
        | some g =>
          rw [hz] at z hs
          have z : S 4 g < S 4 q := of_decide_eq_true z
          simp only at hs
          omega
      exact str_go hsr hg hh R pI oI p h7 ho hQ n (q + 1) (qI + 1) sI lI (by omega) n1 (by rw [st]; exact hs) (by unfold zshl; rw [st]; exact hl)
    · have c2 : ¬ (h.2.1 23 q).toInt ≤ sI.toInt := of_decide_eq_false (cI c2)
      rw [g5] at c2
      have st : zsh S R p (q + 1) = some q := by
        rw [zsh, if_pos]
        rw [c, Bool.true_and]
        cases hz : zsh S R p q with
        | none => rfl
        | some g =>
          rw [hz] at hs
          simp only at hs
          exact decide_eq_true (by omega)
      rw [en]
      exact str_go hsr hg hh R pI oI p h7 ho hQ n (q + 1) (qI + 1) _ _ (by omega) n1 (by rw [st]; exact g5) (by unfold zshl; rw [st]; exact g3)
theorem str_ok {dp : Nat} {S : Nat → Nat → Int} {Y : Int} (hsr : SRG S) (hg : CG h S Y) (hh : HI h) (R : Nat → Bool) (pI : Int32) (p : Nat) (hp : pI.toInt = p) (h7 : p < 7) (hR : BSET (h.2.1 17 11) R) (hQ : ∀ r : Int32, r.toInt = zshl S R p 7 → Q (some (.int r)) h) : Ends X (dp + 1) 16 0 [.ref 17, .int pI, .retAddr 0, .retAddr 0, .retAddr 0, .retAddr 0] [] h Q := by
  have en : pI.toNatClampNeg = p := by show pI.toInt.toNat = _; omega
  refine w_str0 pI hh.hs ⟨inB_iff (by omega) (by omega), ?_⟩
  rw [en]
  exact str_go hsr hg hh R pI _ p h7 (hR.no (BSET.one hp h7)) hQ 7 0 0 (-1) _ (by decide) rfl rfl (hg.1 p h7).2.2.1
theorem lon_go {dp : Nat} (hh : HI h) (Z : Nat → Nat → Bool) (hB : ∀ j, j < 7 → BSET (h.2.1 32 j) (Z j)) (oI : Int32) (own : Int) (ho : oI.toInt = own) (o0 : 0 ≤ own) (o6 : own ≤ 6) (hQ : ∀ r : Int32, r.toInt = (zsk (fun l => pop (Z l)) own 7).1 → Q (some (.int r)) h) : ∀ (n l : Nat) (bI fI' nI lI : Int32) (x y : Value), l + n = 7 → lI.toInt = l → bI.toInt = (zsk (fun l => pop (Z l)) own l).1 → fI'.toInt = (if l = 0 then 8 else (zsk (fun l => pop (Z l)) own l).2 : Nat) → nI.toInt = (if l = 0 then 7 else apt (zsk (fun l => pop (Z l)) own l).1 own) → Ends X (dp + 1) 17 12 [.ref 17, .int oI, .int bI, .int fI', .int nI, .int lI, x, y] [] h Q
  | n, l, bI, fI', nI, lI, x, y, hn, hl, hb, hf, hnr => by
    have j7 : (7 : Int32).toInt = 7 := rfl
    refine w_lon1 oI bI fI' nI lI x y hh.hs ⟨fun e => ?_, fun e => ?_⟩
    · have e : (7 : Int32).toInt ≤ lI.toInt := of_decide_eq_true (cI e)
      have : l = 7 := by omega
      subst this
      exact hQ bI hb
    have e : ¬ (7 : Int32).toInt ≤ lI.toInt := of_decide_eq_false (cI e)
    have l7 : l < 7 := by omega
    have il : inB lI 7 = true := inB_iff (by omega) (by omega)
    have en : lI.toNatClampNeg = l := by show lI.toInt.toNat = _; omega
    have n1 : (lI + 1).toInt = ((l + 1 : Nat) : Int) := by rw [i_add (by rw [i1]; omega) (by rw [i1]; omega), i1]; omega
    obtain ⟨n, rfl⟩ : ∃ k, n = k + 1 := ⟨n - 1, by omega⟩
    have dv : (lI - oI).toInt = (l : Int) - own := by rw [i_sub (by omega) (by omega), hl, ho]
    have zb := zsk_b (fun l => pop (Z l)) (fun l => pop_le _) own l
    refine ⟨il, ?_⟩
    rw [en]
    refine bct_ok (hB l l7) hh.hs (fun r4 h4 => ⟨r4, rfl, hh.hs, abs_ok hh.hs (by omega) (fun r7 hr7 => ⟨r7, rfl, hh.hs, ?_⟩)⟩)
    rw [dv] at hr7
    have hr7 : r7.toInt = apt l own := hr7
    have m7 := pop_le (Z l)
    have upd : (r4.toInt < fI'.toInt ∨ (r4.toInt = fI'.toInt ∧ r7.toInt < nI.toInt)) → Ends X (dp + 1) 17 12 [.ref 17, .int oI, .int lI, .int r4, .int r7, .int (lI + 1), .int r4, .int r7] [] h Q := by
      intro c
      have st : zsk (fun l => pop (Z l)) own (l + 1) = (l, pop (Z l)) := by
        rw [zsk, if_neg]
        by_cases z : l = 0
        · subst z
          unfold zsk
          simp only
          omega
        · rw [if_neg z] at hf hnr
          omega
      refine lon_go hh Z hB oI own ho o0 o6 hQ n (l + 1) lI r4 r7 (lI + 1) _ _ (by omega) n1 ?_ ?_ ?_
      · rw [st]; exact hl
      · rw [if_neg (by omega), st]; exact h4
      · rw [if_neg (by omega), st]; exact hr7
    have keep : ¬ (r4.toInt < fI'.toInt ∨ (r4.toInt = fI'.toInt ∧ r7.toInt < nI.toInt)) → Ends X (dp + 1) 17 12 [.ref 17, .int oI, .int bI, .int fI', .int nI, .int (lI + 1), .int r4, .int r7] [] h Q := by
      intro c
      have z : ¬ l = 0 := by
        intro z
        rw [if_pos z] at hf
        omega
      rw [if_neg z] at hf hnr
      have st : zsk (fun l => pop (Z l)) own (l + 1) = zsk (fun l => pop (Z l)) own l := by
        rw [zsk, if_pos]
        omega
      refine lon_go hh Z hB oI own ho o0 o6 hQ n (l + 1) bI fI' nI (lI + 1) _ _ (by omega) n1 ?_ ?_ ?_
      · rw [st]; exact hb
      · rw [if_neg (by omega), st]; exact hf
      · rw [if_neg (by omega), st]; exact hnr
    refine ⟨fun c => upd (Or.inl ?_), fun c => ⟨fun c2 => keep ?_, fun c2 => ⟨fun c3 => keep ?_, fun c3 => upd (Or.inr ?_)⟩⟩⟩
    · exact of_decide_eq_true (cI c)
    · have c : ¬ r4.toInt < fI'.toInt := of_decide_eq_false (cI c)
      have c2 : ¬ r4.toInt = fI'.toInt := of_decide_eq_true (cI c2)
      omega
    · have c : ¬ r4.toInt < fI'.toInt := of_decide_eq_false (cI c)
      have c3 : nI.toInt ≤ r7.toInt := of_decide_eq_true (cI c3)
      omega
    · have c2 : ¬ ¬ r4.toInt = fI'.toInt := of_decide_eq_false (cI c2)
      have c3 : ¬ nI.toInt ≤ r7.toInt := of_decide_eq_false (cI c3)
      omega
theorem lon_ok {dp : Nat} (hh : HI h) (Z : Nat → Nat → Bool) (hB : ∀ j, j < 7 → BSET (h.2.1 32 j) (Z j)) (oI : Int32) (own : Int) (ho : oI.toInt = own) (o0 : 0 ≤ own) (o6 : own ≤ 6) (hQ : ∀ r : Int32, r.toInt = (zsk (fun l => pop (Z l)) own 7).1 → Q (some (.int r)) h) : Ends X (dp + 1) 17 0 [.ref 17, .int oI, .retAddr 0, .retAddr 0, .retAddr 0, .retAddr 0, .retAddr 0, .retAddr 0] [] h Q :=
  w_lon0 oI hh.hs (lon_go hh Z hB oI own ho o0 o6 hQ 7 0 0 8 7 0 _ _ (by decide) rfl rfl rfl rfl)
theorem way_ok {dp : Nat} {S : Nat → Nat → Int} {Y : Int} (hsr : SRG S) (hg : CG h S Y) (hh : HI h) (R : Nat → Bool) (Z : Nat → Nat → Bool) (hB : ∀ j, j < 7 → BSET (h.2.1 32 j) (Z j)) (pI : Int32) (p : Nat) (hp : pI.toInt = p) (h7 : p < 7) (hR : BSET (h.2.1 17 11) R) (hY0 : 0 ≤ Y) (hQ : ∀ r : Int32, r.toInt = zway S Y R (fun l => pop (Z l)) p → Q (some (.int r)) h) : Ends X (dp + 1 + 1) 15 0 [.ref 17, .int pI, .retAddr 0] [] h Q := by
  have en : pI.toNatClampNeg = p := by show pI.toInt.toNat = _; omega
  have ip : inB pI 7 = true := inB_iff (by omega) (by omega)
  obtain ⟨g1, g2, g3, g4, g5⟩ := hg.1 p h7
  have sr := hsr p h7
  have j3 : (3 : Int32).toInt = 3 := rfl
  have j4 : (4 : Int32).toInt = 4 := rfl
  unfold zway at hQ
  refine w_way pI hh.hs ⟨ip, ip, ?_⟩
  rw [en, g1]
  refine ⟨fun c => ?_, fun c => ⟨fun e => ?_, fun e => ?_⟩, fun c => ?_, fun c => ?_, fun c => ⟨fun e => ?_, fun e => ?_⟩, fun c => ?_, fun c => ?_⟩
  · rw [if_neg (by omega), if_neg (by omega), if_neg (by omega), if_neg (by omega)] at hQ
    exact hQ _ g3
  · have e : (3 : Int32).toInt < (h.2.1 21 p).toInt := of_decide_eq_true (cI e)
    rw [if_pos (Or.inl c), if_neg (by omega)] at hQ
    exact hQ 6 rfl
  · have e : ¬ (3 : Int32).toInt < (h.2.1 21 p).toInt := of_decide_eq_false (cI e)
    rw [if_pos (Or.inl c), if_pos (by omega)] at hQ
    exact hQ 0 rfl
  · rw [if_neg (by omega), if_pos c] at hQ
    exact str_ok hsr hg hh R pI p hp h7 hR (fun r hr => ⟨r, rfl, hh.hs, hQ r hr⟩)
  · rw [if_neg (by omega), if_neg (by omega), if_neg (by omega), if_neg (by omega)] at hQ
    exact hQ _ g3
  · have e : (3 : Int32).toInt < (h.2.1 21 p).toInt := of_decide_eq_true (cI e)
    rw [if_pos (Or.inr c), if_neg (by omega)] at hQ
    exact hQ 6 rfl
  · have e : ¬ (3 : Int32).toInt < (h.2.1 21 p).toInt := of_decide_eq_false (cI e)
    rw [if_pos (Or.inr c), if_pos (by omega)] at hQ
    exact hQ 0 rfl
  · rw [if_neg (by omega), if_neg (by omega), if_pos c] at hQ
    exact lon_ok hh Z hB _ (S 2 p) g3 sr.2.2.1.1 sr.2.2.1.2 (fun r hr => ⟨r, rfl, hh.hs, hQ r hr⟩)
  · rw [if_neg (by omega), if_neg (by omega), if_neg (by omega), if_pos c] at hQ
    refine fm_ok _ 4 hh.hs (by decide) (fun r hr => ⟨r, rfl, hh.hs, ?_⟩)
    rw [j4, hg.2.2] at hr
    have m4 : (pI * 4).toInt = 4 * (p : Int) := by rw [i_mul (by rw [j4]; omega) (by rw [j4]; omega), j4]; omega
    have a4 : (pI * 4 + r).toInt = 4 * (p : Int) + Y % 4 := by rw [i_add (by omega) (by omega), m4, hr]
    refine ⟨inB_iff (by omega) (by omega), ?_⟩
    have e4 : (pI * 4 + r).toNatClampNeg = 4 * p + (Y % 4).toNat := by show (pI * 4 + r).toInt.toNat = _; omega
    rw [e4]
    exact hQ _ (hg.2.1 _ (by omega))
end WAYS
end JN99tx7ways
