/-! judge: both sides, exactly. -/
/-- who is otherwise, from p on -/
def zJ (it : Nat → Int64) (K : Nat → Bool) (st len i : Int) : Nat → Nat → Int
  | 0, _ => -5
  | n + 1, p => if st < 0 ∨ i < 0 ∨ ¬ i + p < len then 100 + (p : Int) else if (!decide (it (i.toNat + p) = 0)) = K p then (p : Int) else zJ it K st len i n (p + 1)
theorem zJ_S {it : Nat → Int64} {K : Nat → Bool} {st len i : Int} {n p : Nat} : zJ it K st len i (n + 1) p = if st < 0 ∨ i < 0 ∨ ¬ i + p < len then 100 + (p : Int) else if (!decide (it (i.toNat + p) = 0)) = K p then (p : Int) else zJ it K st len i n (p + 1) := rfl
section JUDGE
variable {X : Scr} {Q : Option Value → Hp → Prop} {h : Hp}
theorem chplL_ok {dp : Nat} (t : Int32) (v : Int64) (ht : tpOK t) (hh : HI h) (hQ : Q (some (.int (b2i (decide (0 ≤ v.toInt) && decide (v.toInt < (h.2.1 55 t.toInt.toNat).toInt))))) h) : Ends X (dp + 1) 36 0 [.ref 53, .int t, .long v, .retAddr 0] [] h Q := by
  have b := hh.iv 55 t.toInt.toNat (r := (0, 60)) rfl
  simp only at b
  have eL : (h.2.1 55 t.toNatClampNeg).toInt64.toInt = (h.2.1 55 t.toInt.toNat).toInt := Int32.toInt_toInt64 _
  refine w_chpl t v hh.hs (cex_ok t hh.hs ⟨_, rfl, hh.hs, fun e => absurd ht (bnand (cz e)), fun e => ⟨fun e2 => ?_, fun e2 => ⟨inB_iff ht.1 (by have := ht.2; omega), fun e3 => ?_, fun e3 => ⟨fun e4 => ?_, fun e4 => ?_⟩⟩⟩⟩)
  · have e2 : (lg_cmp v 0).toInt < 0 := of_decide_eq_true (cI e2)
    rw [lgc, l0] at e2
    have : ¬ 0 ≤ v.toInt := by
      split at e2
      · omega
      · split at e2 <;> omega
    rwa [decide_eq_false this] at hQ
  all_goals
    have e2 : ¬ (lg_cmp v 0).toInt < 0 := of_decide_eq_false (cI e2)
    rw [lgc, l0] at e2
    have e2 : 0 ≤ v.toInt := by
      split at e2
      · omega
      · omega
  · have e3 : 0 ≤ (lg_cmp v (h.2.1 55 t.toNatClampNeg).toInt64).toInt := of_decide_eq_true (cI e3)
    rw [lgc, eL] at e3
    have : ¬ v.toInt < (h.2.1 55 t.toInt.toNat).toInt := by
      split at e3
      · omega
      · omega
    rwa [decide_eq_true e2, decide_eq_false this] at hQ
  all_goals
    have e3 : ¬ 0 ≤ (lg_cmp v (h.2.1 55 t.toNatClampNeg).toInt64).toInt := of_decide_eq_false (cI e3)
    rw [lgc, eL] at e3
    have e3 : v.toInt < (h.2.1 55 t.toInt.toNat).toInt := by
      split at e3
      · omega
      · split at e3 <;> omega
  · exfalso
    have e4 : 0 ≤ (lg_cmp v 60).toInt := of_decide_eq_true (cI e4)
    rw [lgc, l60] at e4
    split at e4
    · omega
    · omega
  · rwa [decide_eq_true e2, decide_eq_true e3] at hQ
theorem cjud_go {dp : Nat} (hh : HI h) (rx : RX h) (N : Nat) (hN7 : N ≤ 7) (K : Nat → Bool) (hN : (h.2.1 1 0).toInt = N) (hK : BSET (h.2.1 1 7) K) (t i : Int32) (tn : Nat) (ht : t.toInt = tn) (t6 : tn < 6) (hz : (h.2.1 54 tn).toInt = -1 → h.2.1 55 tn = 0) (st : Int) (hst : (h.2.1 54 tn).toInt = st) (st1 : -1 ≤ st) (hQ : ∀ r : Int32, r.toInt = zJ (h.2.2.1 (57 + tn)) K st (h.2.1 55 tn).toInt i.toInt N 0 → Q (some (.int r)) h) : ∀ (n p : Nat) (pI : Int32) (x y z : Value), p + n = N → pI.toInt = p → zJ (h.2.2.1 (57 + tn)) K st (h.2.1 55 tn).toInt i.toInt n p = zJ (h.2.2.1 (57 + tn)) K st (h.2.1 55 tn).toInt i.toInt N 0 → Ends X (dp + 1 + 1) 88 44 [.ref 0, .int t, .int i, .int pI, x, y, z] [] h Q
  | n, p, pI, x, y, z, hn, hp, he => by
    have tp : tpOK t := ⟨by omega, by omega⟩
    have et : t.toInt.toNat = tn := by omega
    have b5 := hh.iv 55 tn (r := (0, 60)) rfl
    simp only at b5
    have ib := i32r i
    simp only [fI] at ib
    have c100 : (100 + pI).toInt = 100 + (p : Int) := by
      have j : (100 : Int32).toInt = 100 := rfl
      rw [i_add (by rw [j]; omega) (by rw [j]; omega), j, hp]
    have lv : (i.toInt64 + pI.toInt64).toInt = i.toInt + p := by rw [l_add (by rw [i64, i64]; omega) (by rw [i64, i64]; omega), i64, i64, hp]
    refine w_cjud1 t i pI x y z hh.hs ⟨fun e => ?_, fun e => ?_⟩
    · have e : (h.2.1 1 0).toInt ≤ pI.toInt := of_decide_eq_true (cJ e)
      have : n = 0 := by omega
      subst this
      exact hQ _ (by rw [← he]; rfl)
    have e : ¬ (h.2.1 1 0).toInt ≤ pI.toInt := of_decide_eq_false (cJ e)
    obtain ⟨n, rfl⟩ : ∃ k, n = k + 1 := ⟨n - 1, by omega⟩
    have n1 : (pI + 1).toInt = ((p + 1 : Nat) : Int) := by rw [i_add (by rw [i1]; omega) (by rw [i1]; omega), i1]; omega
    rw [zJ_S] at he
    refine ⟨fun e2 => ?_, fun e2 => ?_⟩
    · have e2 : i.toInt < (0 : Int32).toInt := of_decide_eq_true (cJ e2)
      rw [z0] at e2
      rw [if_pos (Or.inr (Or.inl e2))] at he
      exact hQ _ (by rw [← he]; exact c100)
    have e2 : ¬ i.toInt < (0 : Int32).toInt := of_decide_eq_false (cJ e2)
    rw [z0] at e2
    refine chplL_ok t _ tp hh ⟨_, rfl, hh.hs, fun e3 => ?_, fun e3 => ?_⟩
    · have e3 := band (cn2 e3)
      rw [lv, et] at e3
      have s0 : ¬ st < 0 := fun z => by
        have := hz (by omega)
        rw [this, z0] at e3
        omega
      rw [if_neg (by omega)] at he
      have pv : ((i.toInt64 + pI.toInt64).toInt32).toInt = i.toInt + p := by rw [Int64.toInt_toInt32, lv, bm32 (by omega) (by omega)]
      have pn : ((i.toInt64 + pI.toInt64).toInt32).toNatClampNeg = i.toInt.toNat + p := by
        show ((i.toInt64 + pI.toInt64).toInt32).toInt.toNat = _
        omega
      have tc : t.toNatClampNeg = tn := et
      refine ⟨57 + tn, inB_iff (by omega) (by omega), by rw [tc]; exact rx.1 tn t6, by omega, row_A t6, inB_iff (by omega) (by omega), ?_⟩
      rw [pn]
      have dct := fun (Q' : Option Value → Hp → Prop) (q : Q' (some (.int (b2i (K p)))) h) => w_dct (X := X) (dp := dp) (Q := Q') pI hh.hs (isin_ok hK hp (by omega) hh.hs ⟨_, rfl, hh.hs, b2i_01 _, q⟩)
      refine ⟨fun e4 => dct _ ⟨_, rfl, hh.hs, fun e5 => ?_, fun e5 => ?_⟩, fun e4 => dct _ ⟨_, rfl, hh.hs, fun e5 => ?_, fun e5 => ?_⟩⟩
      · have e4 : (lg_cmp (h.2.2.1 (57 + tn) (i.toInt.toNat + p)) 0).toInt = (0 : Int32).toInt := of_decide_eq_true (cJ e4)
        rw [z0, lg_z] at e4
        have e5 : ¬ (0 : Int32).toInt = (b2i (K p)).toInt := of_decide_eq_true (cJ e5)
        rw [decide_eq_true e4] at he
        have kp : K p = true := by cases q : K p with | true => rfl | false => rw [q] at e5; exact absurd rfl e5
        rw [if_neg (by rw [kp]; decide)] at he
        exact cjud_go hh rx N hN7 K hN hK t i tn ht t6 hz st hst st1 hQ n (p + 1) _ _ _ _ (by omega) n1 he
      · have e4 : (lg_cmp (h.2.2.1 (57 + tn) (i.toInt.toNat + p)) 0).toInt = (0 : Int32).toInt := of_decide_eq_true (cJ e4)
        rw [z0, lg_z] at e4
        have e5 : ¬ ¬ (0 : Int32).toInt = (b2i (K p)).toInt := of_decide_eq_false (cJ e5)
        rw [decide_eq_true e4] at he
        have kp : K p = false := by cases q : K p with | false => rfl | true => rw [q] at e5; exact absurd (fun z => absurd z (by decide)) e5
        rw [if_pos (by rw [kp]; rfl)] at he
        exact hQ _ (by rw [← he]; exact hp)
      · have e4 : ¬ (lg_cmp (h.2.2.1 (57 + tn) (i.toInt.toNat + p)) 0).toInt = (0 : Int32).toInt := of_decide_eq_false (cJ e4)
        rw [z0, lg_z] at e4
        have e5 : ¬ (1 : Int32).toInt = (b2i (K p)).toInt := of_decide_eq_true (cJ e5)
        rw [decide_eq_false e4] at he
        have kp : K p = false := by cases q : K p with | false => rfl | true => rw [q] at e5; exact absurd rfl e5
        rw [if_neg (by rw [kp]; decide)] at he
        exact cjud_go hh rx N hN7 K hN hK t i tn ht t6 hz st hst st1 hQ n (p + 1) _ _ _ _ (by omega) n1 he
      · have e4 : ¬ (lg_cmp (h.2.2.1 (57 + tn) (i.toInt.toNat + p)) 0).toInt = (0 : Int32).toInt := of_decide_eq_false (cJ e4)
        rw [z0, lg_z] at e4
        have e5 : ¬ ¬ (1 : Int32).toInt = (b2i (K p)).toInt := of_decide_eq_false (cJ e5)
        rw [decide_eq_false e4] at he
        have kp : K p = true := by cases q : K p with | true => rfl | false => rw [q] at e5; exact absurd (fun z => absurd z (by decide)) e5
        rw [if_pos (by rw [kp]; rfl)] at he
        exact hQ _ (by rw [← he]; exact hp)
    · have e3 := bnand (cz2 e3)
      rw [lv, et] at e3
      rw [if_pos (by omega)] at he
      exact hQ _ (by rw [← he]; exact c100)
def zJud (it : Nat → Int64) (K : Nat → Bool) (st len : Int) (N : Nat) (t i : Int32) : Int := if ¬ (0 ≤ t.toInt ∧ t.toInt ≤ 5) then -1 else if ¬ (st = -1 ∨ st = 4) then -12 else zJ it K st len i.toInt N 0
theorem cjud_ok {dp : Nat} (hh : HI h) (rx : RX h) (N : Nat) (hN7 : N ≤ 7) (K : Nat → Bool) (hN : (h.2.1 1 0).toInt = N) (hK : BSET (h.2.1 1 7) K) (hz : ∀ t, t < 6 → (h.2.1 54 t).toInt = -1 → h.2.1 55 t = 0) (t i : Int32) (hQ : ∀ r : Int32, r.toInt = zJud (h.2.2.1 (57 + t.toInt.toNat)) K (h.2.1 54 t.toInt.toNat).toInt (h.2.1 55 t.toInt.toNat).toInt N t i → Q (some (.int r)) h) : Ends X (dp + 1 + 1) 88 0 [.ref 0, .int t, .int i, .retAddr 0, .retAddr 0, .retAddr 0, .retAddr 0] [] h Q := by
  have j4 : (4 : Int32).toInt = 4 := rfl
  unfold zJud at hQ
  refine w_cjud0 t i hh.hs (cex_ok t hh.hs ⟨_, rfl, hh.hs, fun e => ?_, fun e => ?_⟩)
  · have e := band (cn2 e)
    obtain ⟨tn, etn⟩ : ∃ tn, t.toInt.toNat = tn := ⟨_, rfl⟩
    rw [etn, if_neg (fun z => z e)] at hQ
    have tc : t.toNatClampNeg = tn := etn
    have it : inB t 6 = true := inB_iff (by omega) (by omega)
    have b4 := hh.iv 54 tn (r := (-1, 4)) (by
      have : tn = 0 ∨ tn = 1 ∨ tn = 2 ∨ tn = 3 ∨ tn = 4 ∨ tn = 5 := by omega
      rcases this with rfl | rfl | rfl | rfl | rfl | rfl <;> rfl)
    simp only at b4
    rw [tc]
    have go := fun (s : (h.2.1 54 tn).toInt = -1 ∨ (h.2.1 54 tn).toInt = 4) => cjud_go (X := X) (Q := Q) (dp := dp) hh rx N hN7 K hN hK t i tn (by omega) (by omega) (hz tn (by omega)) _ rfl b4.1 (fun r hr => hQ r (by rw [if_neg (fun z => z s)]; exact hr)) N 0 0 (.retAddr 0) (.retAddr 0) (.retAddr 0) (by omega) rfl rfl
    refine ⟨it, fun e2 => ?_, fun e2 => ⟨it, fun e3 => ?_, fun e3 => ?_⟩⟩
    · have e2 : (h.2.1 54 tn).toInt = (-1 : Int32).toInt := of_decide_eq_true (cJ e2)
      exact go (Or.inl e2)
    · have e3 : (h.2.1 54 tn).toInt = (4 : Int32).toInt := of_decide_eq_true (cJ e3)
      exact go (Or.inr e3)
    · have e2 : ¬ (h.2.1 54 tn).toInt = (-1 : Int32).toInt := of_decide_eq_false (cJ e2)
      have e3 : ¬ (h.2.1 54 tn).toInt = (4 : Int32).toInt := of_decide_eq_false (cJ e3)
      rw [im1] at e2
      exact hQ _ (by rw [if_pos (by omega)]; rfl)
  · have e := bnand (cz2 e)
    exact hQ _ (by rw [if_pos e]; rfl)
theorem mjud_go {dp : Nat} {S : Nat → Nat → Int} {Y : Int} {cs : List Cl} {m : List Int} {N : Nat} {K : Nat → Bool} (hh : HI h) (hn : NMS S Y cs m N K h) (hN7 : N ≤ 7) (t i : Int32) (tn : Nat) (ht : t.toInt = tn) (t6 : tn < 6) (hl : (h.2.1 124 tn).toInt ≤ 60) (st : Int) (hst : (h.2.1 123 tn).toInt = st) (s4 : st = -1 ∨ st = 4) (it : Nat → Int64) (hit : ∀ k, k < 60 → h.2.2.1 125 (60 * tn + k) = it k) (h01 : st = 4 → ∀ k, k < 60 → it k = 0 ∨ it k = 1) (hQ : ∀ r : Int32, r.toInt = zJ it K st (h.2.1 124 tn).toInt i.toInt N 0 → Q (some (.int r)) h) : ∀ (n p : Nat) (pI : Int32), p + n = N → pI.toInt = p → zJ it K st (h.2.1 124 tn).toInt i.toInt n p = zJ it K st (h.2.1 124 tn).toInt i.toInt N 0 → Ends X (dp + 1 + 1) 183 34 [.ref 93, .int t, .int i, .int pI] [] h Q
  | n, p, pI, hnn, hp, he => by
    have tc : t.toNatClampNeg = tn := by show t.toInt.toNat = _; omega
    have b5 := hh.iv 124 tn (r := (0, 60)) (by
      have : tn = 0 ∨ tn = 1 ∨ tn = 2 ∨ tn = 3 ∨ tn = 4 ∨ tn = 5 := by omega
      rcases this with rfl | rfl | rfl | rfl | rfl | rfl <;> rfl)
    simp only at b5
    have ib := i32r i
    simp only [fI] at ib
    have it6 : inB t 6 = true := inB_iff (by omega) (by omega)
    have c100 : (100 + pI).toInt = 100 + (p : Int) := by
      have j : (100 : Int32).toInt = 100 := rfl
      rw [i_add (by rw [j]; omega) (by rw [j]; omega), j, hp]
    refine w_mjud1 t i pI hh.hs ⟨fun e => ?_, fun e => ⟨it6, ?_⟩⟩
    · have e : (h.2.1 93 0).toInt ≤ pI.toInt := of_decide_eq_true (cJ e)
      have := hn.2.2.2.1
      have : n = 0 := by omega
      subst this
      exact hQ _ (by rw [← he]; rfl)
    have e : ¬ (h.2.1 93 0).toInt ≤ pI.toInt := of_decide_eq_false (cJ e)
    have sz := hn.2.2.2.1
    obtain ⟨n, rfl⟩ : ∃ k, n = k + 1 := ⟨n - 1, by omega⟩
    have n1 : (pI + 1).toInt = ((p + 1 : Nat) : Int) := by rw [i_add (by rw [i1]; omega) (by rw [i1]; omega), i1]; omega
    rw [zJ_S] at he
    rw [tc]
    refine ⟨fun e2 => ?_, fun e2 => ⟨fun e3 => ?_, fun e3 => ⟨it6, ?_⟩⟩⟩
    · have e2 : (h.2.1 123 tn).toInt < (0 : Int32).toInt := of_decide_eq_true (cJ e2)
      rw [z0] at e2
      rw [if_pos (Or.inl (by omega))] at he
      exact hQ _ (by rw [← he]; exact c100)
    · have e3 : i.toInt < (0 : Int32).toInt := of_decide_eq_true (cJ e3)
      rw [z0] at e3
      rw [if_pos (Or.inr (Or.inl e3))] at he
      exact hQ _ (by rw [← he]; exact c100)
    have e2 : ¬ (h.2.1 123 tn).toInt < (0 : Int32).toInt := of_decide_eq_false (cJ e2)
    have e3 : ¬ i.toInt < (0 : Int32).toInt := of_decide_eq_false (cJ e3)
    rw [z0] at e2 e3
    have st4 : st = 4 := by omega
    have d1 : (h.2.1 124 tn - pI).toInt = (h.2.1 124 tn).toInt - p := by rw [i_sub (by omega) (by omega), hp]
    have d2 : (h.2.1 124 tn - pI - 1).toInt = (h.2.1 124 tn).toInt - p - 1 := by rw [i_sub (by rw [i1]; omega) (by rw [i1]; omega), i1, d1]
    refine ⟨fun e4 => ?_, fun e4 => ?_⟩
    · have e4 : i.toInt ≤ (h.2.1 124 tn - pI - 1).toInt := of_decide_eq_true (cJ e4)
      rw [if_neg (by omega)] at he
      have j60 : (60 : Int32).toInt = 60 := rfl
      have k1 : (60 * t).toInt = 60 * (tn : Int) := by rw [i_mul (by rw [j60]; omega) (by rw [j60]; omega), j60, ht]
      have k2 : (60 * t + i).toInt = 60 * (tn : Int) + i.toInt := by rw [i_add (by omega) (by omega), k1]
      have k3 : (60 * t + i + pI).toInt = 60 * (tn : Int) + i.toInt + p := by rw [i_add (by omega) (by omega), k2, hp]
      have kn : (60 * t + i + pI).toNatClampNeg = 60 * tn + (i.toInt.toNat + p) := by
        show (60 * t + i + pI).toInt.toNat = _
        omega
      have v := hit (i.toInt.toNat + p) (by omega)
      have v01 := h01 st4 (i.toInt.toNat + p) (by omega)
      refine ⟨inB_iff (by omega) (by omega), ?_⟩
      rw [kn, v]
      refine mrn_ok hn hh pI p hp (by omega) (by omega) ⟨_, rfl, hh.hs, fun e5 => ⟨fun e6 => ?_, fun e6 => ?_⟩, fun e5 => ⟨fun e6 => ?_, fun e6 => ?_⟩⟩
      · have kp := cz e5
        rw [Bool.not_eq_false'] at kp
        have e6 : (lg_cmp (it (i.toInt.toNat + p)) 0).toInt = (0 : Int32).toInt := of_decide_eq_true (cJ e6)
        rw [z0, lg_z] at e6
        rw [decide_eq_true e6, if_neg (by rw [kp]; decide)] at he
        exact mjud_go hh hn hN7 t i tn ht t6 hl st hst s4 it hit h01 hQ n (p + 1) _ (by omega) n1 he
      · have kp := cz e5
        rw [Bool.not_eq_false'] at kp
        have e6 : ¬ (lg_cmp (it (i.toInt.toNat + p)) 0).toInt = (0 : Int32).toInt := of_decide_eq_false (cJ e6)
        rw [z0, lg_z] at e6
        rw [decide_eq_false e6, if_pos (by rw [kp]; rfl)] at he
        exact hQ _ (by rw [← he]; exact hp)
      · have kp := cn e5
        rw [Bool.not_eq_true'] at kp
        have e6 : (lg_cmp (it (i.toInt.toNat + p)) 1).toInt = (0 : Int32).toInt := of_decide_eq_true (cJ e6)
        have n0 : ¬ it (i.toInt.toNat + p) = 0 := fun z => by
          rw [z] at e6
          exact absurd e6 (by decide)
        rw [decide_eq_false n0, if_neg (by rw [kp]; decide)] at he
        exact mjud_go hh hn hN7 t i tn ht t6 hl st hst s4 it hit h01 hQ n (p + 1) _ (by omega) n1 he
      · have kp := cn e5
        rw [Bool.not_eq_true'] at kp
        have e6 : ¬ (lg_cmp (it (i.toInt.toNat + p)) 1).toInt = (0 : Int32).toInt := of_decide_eq_false (cJ e6)
        have y0 : it (i.toInt.toNat + p) = 0 := by
          rcases v01 with q | q
          · exact q
          · rw [q] at e6
            exact absurd rfl e6
        rw [decide_eq_true y0, if_pos (by rw [kp]; rfl)] at he
        exact hQ _ (by rw [← he]; exact hp)
    · have e4 : ¬ i.toInt ≤ (h.2.1 124 tn - pI - 1).toInt := of_decide_eq_false (cJ e4)
      rw [if_pos (by omega)] at he
      exact hQ _ (by rw [← he]; exact c100)
theorem mjud_ok {dp : Nat} {S : Nat → Nat → Int} {Y : Int} {cs : List Cl} {m : List Int} {N : Nat} {K : Nat → Bool} (hh : HI h) (hn : NMS S Y cs m N K h) (hN7 : N ≤ 7) (t i : Int32) (it : Nat → Int64) (hit : tpOK t → ∀ k, k < 60 → h.2.2.1 125 (60 * t.toInt.toNat + k) = it k) (h01 : tpOK t → (h.2.1 123 t.toInt.toNat).toInt = 4 → ∀ k, k < 60 → it k = 0 ∨ it k = 1) (hQ : ∀ r : Int32, r.toInt = zJud it K (h.2.1 123 t.toInt.toNat).toInt (h.2.1 124 t.toInt.toNat).toInt N t i → Q (some (.int r)) h) : Ends X (dp + 1 + 1) 183 0 [.ref 93, .int t, .int i, .retAddr 0] [] h Q := by
  have j4 : (4 : Int32).toInt = 4 := rfl
  unfold zJud at hQ
  refine w_mjud0 t i hh.hs (tape_ok t hh.hs ⟨_, rfl, hh.hs, fun e => ?_, fun e => ?_⟩)
  · have e := band (cn2 e)
    have hit := hit e
    have h01 := h01 e
    obtain ⟨tn, etn⟩ : ∃ tn, t.toInt.toNat = tn := ⟨_, rfl⟩
    rw [etn] at hQ hit h01
    rw [if_neg (fun z => z e)] at hQ
    have tc : t.toNatClampNeg = tn := etn
    have it6 : inB t 6 = true := inB_iff (by omega) (by omega)
    have t6 : tn = 0 ∨ tn = 1 ∨ tn = 2 ∨ tn = 3 ∨ tn = 4 ∨ tn = 5 := by omega
    have b4 := hh.iv 123 tn (r := (-1, 4)) (by rcases t6 with rfl | rfl | rfl | rfl | rfl | rfl <;> rfl)
    have b5 := hh.iv 124 tn (r := (0, 60)) (by rcases t6 with rfl | rfl | rfl | rfl | rfl | rfl <;> rfl)
    simp only at b4 b5
    rw [tc]
    have go := fun (s : (h.2.1 123 tn).toInt = -1 ∨ (h.2.1 123 tn).toInt = 4) => mjud_go (X := X) (Q := Q) (dp := dp) hh hn hN7 t i tn (by omega) (by omega) b5.2 _ rfl s it hit h01 (fun r hr => hQ r (by rw [if_neg (fun z => z s)]; exact hr)) N 0 0 (by omega) rfl rfl
    refine ⟨it6, fun e2 => ?_, fun e2 => ⟨it6, fun e3 => ?_, fun e3 => ?_⟩⟩
    · have e2 : (h.2.1 123 tn).toInt < (0 : Int32).toInt := of_decide_eq_true (cJ e2)
      rw [z0] at e2
      exact go (Or.inl (by omega))
    · have e3 : (h.2.1 123 tn).toInt = (4 : Int32).toInt := of_decide_eq_true (cJ e3)
      exact go (Or.inr e3)
    · have e2 : ¬ (h.2.1 123 tn).toInt < (0 : Int32).toInt := of_decide_eq_false (cJ e2)
      have e3 : ¬ (h.2.1 123 tn).toInt = (4 : Int32).toInt := of_decide_eq_false (cJ e3)
      rw [z0] at e2
      exact hQ _ (by rw [if_pos (by omega)]; rfl)
  · have e := bnand (cz2 e)
    exact hQ _ (by rw [if_pos e]; rfl)
theorem judge_pairX (a b : Int32) (hi : INVD h) {K : Hp → Int32 → Int32 → Prop} (hK : ∀ r h', INVD h' → K h' r r) (hQ : ∀ r h1, HI h1 → REF X 999 183 [.ref 93, .int a, .int b, .retAddr 0] K r h1 → Q (some (.int r)) h1) : Ends X 999 88 0 [.ref 0, .int a, .int b, .retAddr 0, .retAddr 0, .retAddr 0, .retAddr 0] [] h Q := by
  obtain ⟨q, cs, m, N, KK, ha, hn, mk, yk, y9⟩ := hi.duo
  have N7 := mk.2.2.2
  have rx : RX h := hi.1.1.1.2.2.2.2.2.1
  obtain ⟨-, -, -, -, -, t1, t2, t3, t4, t5⟩ := hi.1.1.2
  refine cjud_ok (dp := 997) hi.hh rx N N7 KK ha.2.2.2.2.1 ha.2.2.2.2.2.1 t4 a b (fun r hr => hQ r h hi.hh ?_)
  by_cases tp : tpOK a
  · have t6 : a.toInt.toNat < 6 := by have := tp.1; have := tp.2; omega
    refine mjud_ok (dp := 997) hi.hh hn N7 a b (h.2.2.1 (57 + a.toInt.toNat)) (fun _ k hk => (t3 _ k t6 hk).symm) (fun _ s k hk => t5 _ k t6 hk (by rw [t1 _ t6]; exact s)) (fun r2 hr2 => ⟨r2, rfl, hi.hh.hs, ?_⟩)
    rw [← t1 _ t6, ← t2 _ t6, ← hr] at hr2
    rw [Int32.toInt.inj hr2]
    exact hK r h hi
  · refine mjud_ok (dp := 997) hi.hh hn N7 a b (h.2.2.1 (57 + a.toInt.toNat)) (fun z => absurd z tp) (fun z => absurd z tp) (fun r2 hr2 => ⟨r2, rfl, hi.hh.hs, ?_⟩)
    unfold zJud at hr hr2
    have tp2 : ¬ (0 ≤ a.toInt ∧ a.toInt ≤ 5) := tp
    rw [if_pos tp2] at hr hr2
    rw [Int32.toInt.inj (hr2.trans hr.symm)]
    exact hK r h hi
end JUDGE
