/-! Whether a clause holds: as it is told, and the class's way. -/
/-- a test's truth -/
def ztst (s x : Int) : Bool := if s / 100 % 10 = 0 then decide (x < s % 100) else if s / 100 % 10 = 1 then decide (x = s % 100) else decide (s % 100 < x)
/-- marks in their order, one behind what they join -/
def zev : List Int → (Int → Int) → List Bool → List Bool
  | [], _, st => st
  | s :: l, fc, st => if s = -33 then (match st with | b :: r => zev l fc ((!b) :: r) | [] => []) else if s < 0 then (match st with | b :: a :: r => zev l fc ((if s = -38 then a && b else a || b) :: r) | _ => []) else zev l fc (ztst s (fc (s / 1000)) :: st)
def zso (e : List Int) (fc : Int → Int) : Bool := (zev e fc []).headD false
/-- what is asked of -/
def FCT (h : Hp) (fc : Int → Int) : Prop := ∀ j : Nat, j < 6 → (h.2.1 31 j).toInt = fc j
theorem trM_neg {s : Int} : (s = -33 → trM s = -1) ∧ (s = -38 → trM s = -2) ∧ (s = -124 → trM s = -3) ∧ (0 ≤ s → trM s = 300 * (s / 1000) + s % 1000) := by
  unfold trM
  refine ⟨fun e => by rw [if_pos e], fun e => by rw [if_neg (by omega), if_pos e], fun e => by rw [if_neg (by omega), if_neg (by omega), if_pos e], fun e => by rw [if_neg (by omega), if_neg (by omega), if_neg (by omega)]⟩
section TRU
variable {X : Scr} {h : Hp} {Q : Option Value → Hp → Prop}
theorem pass_ok {dp : Nat} (mI : Int32) (s : Int) (fc : Int → Int) (hm : mI.toInt = trM s) (h0 : 0 ≤ s) (h6 : s < 6000) (h2 : s / 100 % 10 ≤ 2) (hF : FCT h fc) (hs : HS h) (hQ : Q (some (.int (b2i (ztst s (fc (s / 1000)))))) h) : Ends X dp 61 0 [.int mI, .ref 31, .retAddr 0, .retAddr 0, .retAddr 0] [] h Q := by
  have e := trM_neg.2.2.2 h0
  rw [e] at hm
  refine w_pass mI hs ?_
  have j100 : (100 : Int32).toInt = 100 := rfl
  have j3 : (3 : Int32).toInt = 3 := rfl
  have j0 : (0 : Int32).toInt = 0 := rfl
  have j6 : (6 : Int32).toInt = 6 := rfl
  have a1 : (mI / 100).toInt = mI.toInt / 100 := i_dv (by omega) (by decide)
  have a2 : (mI / 100 / 3).toInt = mI.toInt / 100 / 3 := by rw [i_dv (by omega) (by decide), a1, j3]
  have a3 : (mI / 100 / 3 * 3).toInt = mI.toInt / 100 / 3 * 3 := by rw [i_mul (by rw [a2, j3]; omega) (by rw [a2, j3]; omega), a2, j3]
  have a4 : (mI / 100 - mI / 100 / 3 * 3).toInt = mI.toInt / 100 - mI.toInt / 100 / 3 * 3 := by rw [i_sub (by rw [a1, a3]; omega) (by rw [a1, a3]; omega), a1, a3]
  have a5 : (mI / 100 * 100).toInt = mI.toInt / 100 * 100 := by rw [i_mul (by rw [a1, j100]; omega) (by rw [a1, j100]; omega), a1, j100]
  have a6 : (mI - mI / 100 * 100).toInt = mI.toInt - mI.toInt / 100 * 100 := by rw [i_sub (by rw [a5]; omega) (by rw [a5]; omega), a5]
  have v1 : (mI / 100 / 3).toInt = s / 1000 := by omega
  have v2 : (mI / 100 - mI / 100 / 3 * 3).toInt = s / 100 % 10 := by omega
  have v3 : (mI - mI / 100 * 100).toInt = s % 100 := by omega
  generalize mI / 100 - mI / 100 / 3 * 3 = rl at v2
  generalize hd : mI / 100 / 3 = lt at v1
  generalize mI - mI / 100 * 100 = nb at v3
  have fv : (h.2.1 31 lt.toNatClampNeg).toInt = fc (s / 1000) := by
    have := hF lt.toInt.toNat (by omega)
    rw [show lt.toNatClampNeg = lt.toInt.toNat from rfl, this]
    congr 1
    omega
  rw [show lt.toNatClampNeg = lt.toInt.toNat from rfl] at fv ⊢
  generalize h.2.1 31 lt.toInt.toNat = x at fv ⊢
  unfold ztst at hQ
  refine ⟨fun e => ?_, fun _ => ⟨fun _ => ⟨inB_iff (by omega) (by omega), ⟨fun z => ⟨fun e => ?_, fun e => ?_⟩, fun z => ⟨fun e => ?_, fun e => ?_⟩, fun z => ⟨fun e => ?_, fun e => ?_⟩⟩⟩, fun e => ?_⟩⟩
  · exfalso
    have e : lt.toInt < (0 : Int32).toInt := of_decide_eq_true (cI e)
    omega
  · have e : x.toInt ≤ nb.toInt := of_decide_eq_true (cI e)
    rw [if_neg (by omega), if_neg (by omega), decide_eq_false (by omega)] at hQ
    exact hQ
  · have e : ¬ x.toInt ≤ nb.toInt := of_decide_eq_false (cI e)
    rw [if_neg (by omega), if_neg (by omega), decide_eq_true (by omega)] at hQ
    exact hQ
  · have e : nb.toInt ≤ x.toInt := of_decide_eq_true (cI e)
    rw [if_pos (by omega), decide_eq_false (by omega)] at hQ
    exact hQ
  · have e : ¬ nb.toInt ≤ x.toInt := of_decide_eq_false (cI e)
    rw [if_pos (by omega), decide_eq_true (by omega)] at hQ
    exact hQ
  · have e : ¬ x.toInt = nb.toInt := of_decide_eq_true (cI e)
    rw [if_neg (by omega), if_pos (by omega), decide_eq_false (by omega)] at hQ
    exact hQ
  · have e : ¬ ¬ x.toInt = nb.toInt := of_decide_eq_false (cI e)
    rw [if_neg (by omega), if_pos (by omega), decide_eq_true (by omega)] at hQ
    exact hQ
  · exfalso
    have e : ¬ lt.toInt < (6 : Int32).toInt := of_decide_eq_false (cI e)
    omega
theorem gdC {α : Type} {d x : α} {l : List α} (j : Nat) : (x :: l).getD (j + 1) d = l.getD j d := rfl
theorem tru_go {dp q : Nat} (hY : YB q) (fc : Int → Int) (hF : FCT h fc) (hs : HS h) (f t : Int32) (b : Nat) (ht : t.toInt = b) (hb : b ≤ 100) :
    ∀ (rest : List Int) (i : Nat) (iI : Int32) (v : Int64) (st : List Bool) (x y z : Value), iI.toInt = i → (∀ j, j < rest.length → (h.2.1 (q + 4) (i + j)).toInt = trM (rest.getD j 0)) → i + rest.length = b → BST v st → st.length ≤ 60 → pk rest st.length = some 1 → Q (some (.int (b2i ((zev rest fc st).headD false)))) h → Ends X (dp + 1) 59 10 [.ref q, .int f, .int t, .ref 31, .long v, .retAddr 0, .int iI, x, y, z] [] h Q
  | [], i, iI, v, st, x, y, z, hi, hm, hl, hv, hst, hp, hQ => by
    have hl : i = b := hl
    refine w_ytru1 hY f t v iI x y z hs ⟨fun _ => ⟨fun e => ?_, fun e => ?_⟩, fun e => ?_⟩
    · have := hv.top.1 e
      rw [show (zev [] fc st) = st from rfl, this] at hQ
      exact hQ
    · have := hv.top.2 e
      rw [show (zev [] fc st) = st from rfl, this] at hQ
      exact hQ
    · exfalso
      have e : ¬ t.toInt ≤ iI.toInt := of_decide_eq_false (cI e)
      omega
  | s :: rest, i, iI, v, st, x, y, z, hi, hm, hl, hv, hst, hp, hQ => by
    have hl : i + (rest.length + 1) = b := hl
    have j100 : (100 : Int32).toInt = 100 := rfl
    have n1 : (iI + 1).toInt = ((i + 1 : Nat) : Int) := by rw [i_add (by rw [i1]; omega) (by rw [i1]; omega), i1]; omega
    have c0 := hm 0 (by show 0 < rest.length + 1; omega)
    have c0 : (h.2.1 (q + 4) i).toInt = trM s := c0
    have nx : ∀ j, j < rest.length → (h.2.1 (q + 4) (i + 1 + j)).toInt = trM (rest.getD j 0) := fun j hj => by
      have := hm (j + 1) (by show j + 1 < rest.length + 1; omega)
      rw [gdC] at this
      rw [show i + 1 + j = i + (j + 1) by omega]
      exact this
    refine w_ytru1 hY f t v iI x y z hs ⟨fun e => ?_, fun _ => ⟨fun e => ?_, fun _ => ⟨inB_iff (by omega) (by omega), ?_⟩⟩⟩
    · exfalso
      have e : t.toInt ≤ iI.toInt := of_decide_eq_true (cI e)
      omega
    · exfalso
      have e : (100 : Int32).toInt ≤ iI.toInt := of_decide_eq_true (cI e)
      omega
    rw [show iI.toNatClampNeg = iI.toInt.toNat from rfl, show iI.toInt.toNat = i by omega]
    generalize h.2.1 (q + 4) i = mk at c0
    have jm1 : (-1 : Int32).toInt = -1 := rfl
    have jm2 : (-2 : Int32).toInt = -2 := rfl
    have jm3 : (-3 : Int32).toInt = -3 := rfl
    obtain ⟨t1, t2, t3, t4⟩ := @trM_neg s
    unfold pk at hp
    unfold zev at hQ
    refine ⟨fun e1 => ⟨fun e2 => ⟨fun e3 => ?_, fun e3 => ?_⟩, fun e2 => ?_⟩, fun e1 => ?_⟩
    · have e1 : ¬ mk.toInt = (-1 : Int32).toInt := of_decide_eq_true (cI e1)
      have e2 : ¬ mk.toInt = (-2 : Int32).toInt := of_decide_eq_true (cI e2)
      have e3 : ¬ mk.toInt = (-3 : Int32).toInt := of_decide_eq_true (cI e3)
      have g1 : ¬ s = -33 := fun q => by have := t1 q; omega
      have g2 : ¬ (s = -38 ∨ s = -124) := fun q => by rcases q with q | q; have := t2 q; omega; have := t3 q; omega
      rw [if_neg g1, if_neg g2] at hp
      have sh : st.length < 60 ∧ 0 ≤ s ∧ s < 6000 ∧ s / 100 % 10 ≤ 2 := by
        apply Decidable.byContradiction
        intro q
        rw [if_neg q] at hp
        cases hp
      rw [if_pos sh] at hp
      rw [if_neg g1, if_neg (by omega)] at hQ
      refine pass_ok mk s fc c0 sh.2.1 sh.2.2.1 sh.2.2.2 hF hs ⟨_, rfl, hs, fun e => ?_, fun e => ?_⟩
      · have e := cz e
        rw [e] at hQ
        exact tru_go hY fc hF hs f t b ht hb rest (i + 1) (iI + 1) _ _ _ _ _ n1 nx (by omega) (hv.push (by omega) false) (by show st.length + 1 ≤ 60; omega) hp hQ
      · have e := cn e
        rw [e] at hQ
        exact tru_go hY fc hF hs f t b ht hb rest (i + 1) (iI + 1) _ _ _ _ _ n1 nx (by omega) (hv.push (by omega) true) (by show st.length + 1 ≤ 60; omega) hp hQ
    · have e3 : ¬ ¬ mk.toInt = (-3 : Int32).toInt := of_decide_eq_false (cI e3)
      have g : s = -124 := by
        apply Decidable.byContradiction
        intro q
        by_cases a1 : s = -33
        · have := t1 a1; omega
        · by_cases a2 : s = -38
          · have := t2 a2; omega
          · rw [if_neg a1, if_neg (by omega)] at hp
            by_cases a3 : st.length < 60 ∧ 0 ≤ s ∧ s < 6000 ∧ s / 100 % 10 ≤ 2
            · have := t4 a3.2.1; omega
            · rw [if_neg a3] at hp
              cases hp
      rw [if_neg (by omega), if_pos (Or.inr g)] at hp
      match st, hst, hv, hp, hQ with
      | [], _, _, hp, _ => simp at hp
      | [_], _, _, hp, _ => simp at hp
      | b1 :: b2 :: st, hst, hv, hp, hQ =>
        rw [if_pos (by show 2 ≤ st.length + 1 + 1; omega)] at hp
        rw [if_neg (by omega), if_pos (by omega)] at hQ
        simp only at hQ
        rw [if_neg (by omega)] at hQ
        have hst : st.length + 1 + 1 ≤ 60 := hst
        exact tru_go hY fc hF hs f t b ht hb rest (i + 1) (iI + 1) _ _ _ _ _ n1 nx (by omega) (hv.or (by omega)) (by show st.length + 1 ≤ 60; omega) hp hQ
    · have e2 : ¬ ¬ mk.toInt = (-2 : Int32).toInt := of_decide_eq_false (cI e2)
      have g : s = -38 := by
        apply Decidable.byContradiction
        intro q
        by_cases a1 : s = -33
        · have := t1 a1; omega
        · by_cases a2 : s = -124
          · have := t3 a2; omega
          · rw [if_neg a1, if_neg (by omega)] at hp
            by_cases a3 : st.length < 60 ∧ 0 ≤ s ∧ s < 6000 ∧ s / 100 % 10 ≤ 2
            · have := t4 a3.2.1; omega
            · rw [if_neg a3] at hp
              cases hp
      rw [if_neg (by omega), if_pos (Or.inl g)] at hp
      match st, hst, hv, hp, hQ with
      | [], _, _, hp, _ => simp at hp
      | [_], _, _, hp, _ => simp at hp
      | b1 :: b2 :: st, hst, hv, hp, hQ =>
        rw [if_pos (by show 2 ≤ st.length + 1 + 1; omega)] at hp
        rw [if_neg (by omega), if_pos (by omega)] at hQ
        simp only at hQ
        rw [if_pos g] at hQ
        have hst : st.length + 1 + 1 ≤ 60 := hst
        exact tru_go hY fc hF hs f t b ht hb rest (i + 1) (iI + 1) _ _ _ _ _ n1 nx (by omega) (hv.and (by omega)) (by show st.length + 1 ≤ 60; omega) hp hQ
    · have e1 : ¬ ¬ mk.toInt = (-1 : Int32).toInt := of_decide_eq_false (cI e1)
      have g : s = -33 := by
        apply Decidable.byContradiction
        intro q
        rw [if_neg q] at hp
        by_cases a2 : s = -38 ∨ s = -124
        · rcases a2 with a2 | a2
          · have := t2 a2; omega
          · have := t3 a2; omega
        · rw [if_neg a2] at hp
          by_cases a3 : st.length < 60 ∧ 0 ≤ s ∧ s < 6000 ∧ s / 100 % 10 ≤ 2
          · have := t4 a3.2.1; omega
          · rw [if_neg a3] at hp
            cases hp
      rw [if_pos g] at hp
      rw [if_pos g] at hQ
      match st, hst, hv, hp, hQ with
      | [], _, _, hp, _ => simp at hp
      | b1 :: st, hst, hv, hp, hQ =>
        rw [if_pos (by show 1 ≤ st.length + 1; omega)] at hp
        simp only at hQ
        exact tru_go hY fc hF hs f t b ht hb rest (i + 1) (iI + 1) _ _ _ _ _ n1 nx (by omega) hv.not hst hp hQ
theorem maxx_ok {dp : Nat} (f : Int32) (hf : 0 ≤ f.toInt) (hs : HS h) (hQ : Q (some (.int f)) h) : Ends X dp 207 0 [.int f, .int 0] [] h Q := by
  have z0 : (0 : Int32).toInt = 0 := rfl
  refine w_max f 0 hs ⟨fun e => ?_, fun e => hQ⟩
  exfalso
  have e : f.toInt < (0 : Int32).toInt := of_decide_eq_true (cI e)
  omega
theorem tru_ok {dp q : Nat} (hY : YB q) (fc : Int → Int) (hF : FCT h fc) (hs : HS h) (f t : Int32) (a b : Nat) (hf : f.toInt = a) (ht : t.toInt = b) (hb : b ≤ 100) (e : List Int) (he : ∀ j, j < e.length → (h.2.1 (q + 4) (a + j)).toInt = trM (e.getD j 0)) (hl : a + e.length = b) (hp : pk e 0 = some 1) (hQ : Q (some (.int (b2i (zso e fc)))) h) : Ends X (dp + 1) 59 0 [.ref q, .int f, .int t, .ref 31, .retAddr 0, .retAddr 0, .retAddr 0, .retAddr 0, .retAddr 0, .retAddr 0] [] h Q :=
  w_ytru0 hY f t hs (maxx_ok f (by omega) hs ⟨_, rfl, hs, tru_go hY fc hF hs f t b ht hb e a f 0 [] _ _ _ hf he hl BST.zero (by decide) hp hQ⟩)
end TRU
