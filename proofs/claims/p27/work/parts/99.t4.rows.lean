/-! Rows, what is seen, books: both sides exactly, and the pairs of calls. -/
section ROWS
variable {X : Scr} {dp : Nat} {h : Hp} {Q : Option Value → Hp → Prop}
theorem ix4 {p a : Int32} (h1 : 0 ≤ p.toInt) (h2 : p.toInt < 7) (h3 : 0 ≤ a.toInt) (h4 : a.toInt < 4) : ((p * 4) + a).toInt = 4 * p.toInt + a.toInt := by
  have j4 : (4 : Int32).toInt = 4 := rfl
  have e : (p * 4).toInt = p.toInt * 4 := by rw [i_mul (by rw [j4]; omega) (by rw [j4]; omega), j4]
  rw [i_add (by omega) (by omega)]
  omega
theorem ix4' {p a : Int32} (h1 : 0 ≤ p.toInt) (h2 : p.toInt < 7) (h3 : 0 ≤ a.toInt) (h4 : a.toInt < 4) : ((4 * p) + a).toInt = 4 * p.toInt + a.toInt := by
  have j4 : (4 : Int32).toInt = 4 := rfl
  have e : (4 * p).toInt = 4 * p.toInt := by rw [i_mul (by rw [j4]; omega) (by rw [j4]; omega), j4]
  rw [i_add (by omega) (by omega)]
  omega
theorem chas_ok (p : Int32) (hh : HI h) (hQ : Q (some (.int (b2i (decide (0 ≤ p.toInt) && decide (p.toInt < (h.2.1 1 0).toInt))))) h) : Ends X dp 26 0 [.ref 1, .int p] [] h Q := by
  have b := hh.iv 1 0 (r := (0, 7)) rfl
  simp only at b
  refine w_chas p hh.hs ⟨fun e => ?_, fun e => ⟨fun e2 => ?_, fun e2 => ⟨fun e3 => ?_, fun e3 => ?_⟩⟩⟩
  · have e : p.toInt < 0 := of_decide_eq_true (cI e)
    rwa [decide_eq_false (by omega : ¬ 0 ≤ p.toInt)] at hQ
  · have e : ¬ p.toInt < 0 := of_decide_eq_false (cI e)
    have e2 : (h.2.1 1 0).toInt ≤ p.toInt := of_decide_eq_true (cI e2)
    rwa [decide_eq_true (by omega : 0 ≤ p.toInt), decide_eq_false (by omega : ¬ p.toInt < (h.2.1 1 0).toInt)] at hQ
  · exfalso
    have e2 : ¬ (h.2.1 1 0).toInt ≤ p.toInt := of_decide_eq_false (cI e2)
    have e3 : 7 ≤ p.toInt := of_decide_eq_true (cI e3)
    omega
  · have e : ¬ p.toInt < 0 := of_decide_eq_false (cI e)
    have e2 : ¬ (h.2.1 1 0).toInt ≤ p.toInt := of_decide_eq_false (cI e2)
    rwa [decide_eq_true (by omega : 0 ≤ p.toInt), decide_eq_true (by omega : p.toInt < (h.2.1 1 0).toInt)] at hQ
theorem band {a b : Prop} [Decidable a] [Decidable b] (h : (decide a && decide b) = true) : a ∧ b := by
  rw [Bool.and_eq_true, decide_eq_true_eq, decide_eq_true_eq] at h
  exact h
theorem bnand {a b : Prop} [Decidable a] [Decidable b] (h : (decide a && decide b) = false) : ¬ (a ∧ b) := by
  intro q
  rw [decide_eq_true q.1, decide_eq_true q.2] at h
  cases h
theorem crow_ok (p a n : Int32) (hh : HI h)
    (q1 : ¬ (0 ≤ p.toInt ∧ p.toInt < (h.2.1 1 0).toInt ∧ 0 ≤ a.toInt ∧ a.toInt < 4) → Q (some (.int (-1))) h)
    (q2 : (0 ≤ p.toInt ∧ p.toInt < (h.2.1 1 0).toInt ∧ 0 ≤ a.toInt ∧ a.toInt < 4) → ¬ (0 ≤ n.toInt ∧ n.toInt ≤ 6) → Q (some (.int (-2))) h)
    (q3 : (0 ≤ p.toInt ∧ p.toInt < (h.2.1 1 0).toInt ∧ 0 ≤ a.toInt ∧ a.toInt < 4) → (0 ≤ n.toInt ∧ n.toInt ≤ 6) → ¬ h.2.1 2 p.toInt.toNat = 6 → Q (some (.int (-3))) h)
    (q4 : (0 ≤ p.toInt ∧ p.toInt < (h.2.1 1 0).toInt ∧ 0 ≤ a.toInt ∧ a.toInt < 4) → (0 ≤ n.toInt ∧ n.toInt ≤ 6) → h.2.1 2 p.toInt.toNat = 6 → Q (some (.int (h.2.1 7 (4 * p.toInt + a.toInt).toNat))) (hpI h 7 (4 * p.toInt + a.toInt).toNat n)) :
    Ends X (dp + 1) 67 0 [.ref 0, .int p, .int a, .int n, .retAddr 0] [] h Q := by
  have hs := hh.hs
  have b := hh.iv 1 0 (r := (0, 7)) rfl
  have j4 : (4 : Int32).toInt = 4 := rfl
  simp only at b
  refine w_crow p a n hs (chas_ok p hh ⟨_, rfl, hs, fun e => q1 ?_, fun e => ⟨fun e2 => q1 ?_, fun e2 => ⟨fun e3 => isLane_ok n hs ⟨_, rfl, hs, fun e4 => ?_, fun e4 => ?_⟩, fun e3 => q1 ?_⟩⟩⟩)
  · have e := bnand (cz e)
    omega
  · have e2 : a.toInt < 0 := of_decide_eq_true (cI e2)
    omega
  · have e := band (cn e)
    have e2 : ¬ a.toInt < 0 := of_decide_eq_false (cI e2)
    have e3 : a.toInt < 4 := of_decide_eq_true (cI e3)
    have e4 := band (cn2 e4)
    have ip : inB p 7 = true := inB_iff (by omega) (by omega)
    have ei := ix4 (p := p) (a := a) (by omega) (by omega) (by omega) (by omega)
    have en : ((p * 4) + a).toNatClampNeg = (4 * p.toInt + a.toInt).toNat := by show ((p * 4) + a).toInt.toNat = _; rw [ei]
    have ix : inB ((p * 4) + a) 28 = true := inB_iff (by rw [ei]; omega) (by rw [ei]; omega)
    refine ⟨ip, fun e5 => ⟨ix, ix, ?_⟩, fun e5 => ?_⟩
    · rw [en]
      exact q4 (by omega) e4 (of_decide_eq_true e5)
    · exact q3 (by omega) e4 (of_decide_eq_false e5)
  · have e := band (cn e)
    have e2 : ¬ a.toInt < 0 := of_decide_eq_false (cI e2)
    have e3 : a.toInt < 4 := of_decide_eq_true (cI e3)
    exact q2 (by omega) (bnand (cz2 e4))
  · have e3 : ¬ a.toInt < 4 := of_decide_eq_false (cI e3)
    omega
theorem mrow_ok (p a n : Int32) (hh : HI h)
    (q1 : ¬ (0 ≤ p.toInt ∧ p.toInt < (h.2.1 93 0).toInt ∧ 0 ≤ a.toInt ∧ a.toInt < 4) → Q (some (.int (-1))) h)
    (q2 : (0 ≤ p.toInt ∧ p.toInt < (h.2.1 93 0).toInt ∧ 0 ≤ a.toInt ∧ a.toInt < 4) → ¬ (0 ≤ n.toInt ∧ n.toInt ≤ 6) → Q (some (.int (-2))) h)
    (q3 : (0 ≤ p.toInt ∧ p.toInt < (h.2.1 93 0).toInt ∧ 0 ≤ a.toInt ∧ a.toInt < 4) → (0 ≤ n.toInt ∧ n.toInt ≤ 6) → ¬ h.2.1 94 p.toInt.toNat = 6 → Q (some (.int (-3))) h)
    (q4 : (0 ≤ p.toInt ∧ p.toInt < (h.2.1 93 0).toInt ∧ 0 ≤ a.toInt ∧ a.toInt < 4) → (0 ≤ n.toInt ∧ n.toInt ≤ 6) → h.2.1 94 p.toInt.toNat = 6 → Q (some (.int (h.2.1 99 (4 * p.toInt + a.toInt).toNat))) (hpI h 99 (4 * p.toInt + a.toInt).toNat n)) :
    Ends X (dp + 1 + 1) 117 0 [.ref 93, .int p, .int a, .int n, .retAddr 0] [] h Q := by
  have hs := hh.hs
  have b := hh.iv 93 0 (r := (0, 7)) rfl
  have j0 : (0 : Int32).toInt = 0 := rfl
  have j3 : (3 : Int32).toInt = 3 := rfl
  have j6 : (6 : Int32).toInt = 6 := rfl
  simp only at b
  refine w_mrow p a n hs (person_ok p hh ⟨_, rfl, hs, fun e => q1 ?_, fun e => in_ok _ _ _ hs ⟨_, rfl, hs, fun e2 => in_ok _ _ _ hs ⟨_, rfl, hs, fun e4 => ?_, fun e4 => ?_⟩, fun e2 => q1 ?_⟩⟩)
  · have e := bnand (cz e)
    omega
  · have e := band (cn e)
    have e2 := band (cn2 e2)
    have e4 := band (cn2 e4)
    rw [j0, j3] at e2
    rw [j0, j6] at e4
    have ip : inB p 7 = true := inB_iff (by omega) (by omega)
    have ei := ix4' (p := p) (a := a) (by omega) (by omega) (by omega) (by omega)
    have en : ((4 * p) + a).toNatClampNeg = (4 * p.toInt + a.toInt).toNat := by show ((4 * p) + a).toInt.toNat = _; rw [ei]
    have ix : inB ((4 * p) + a) 28 = true := inB_iff (by rw [ei]; omega) (by rw [ei]; omega)
    refine ⟨ip, fun e5 => ⟨ix, ix, ?_⟩, fun e5 => ?_⟩
    · rw [en]
      exact q4 (by omega) e4 (of_decide_eq_true e5)
    · exact q3 (by omega) e4 (of_decide_eq_false e5)
  · have e := band (cn e)
    have e2 := band (cn2 e2)
    have e4 := bnand (cz2 e4)
    rw [j0, j3] at e2
    rw [j0, j6] at e4
    exact q2 (by omega) e4
  · have e2 := bnand (cz2 e2)
    rw [j0, j3] at e2
    omega
def WRW : List (Nat × Nat) := [(7, 999), (99, 999)]
theorem WRW_7 {k : Nat} : inW WRW 7 k = true := by simp [inW, WRW]
theorem WRW_99 {k : Nat} : inW WRW 99 k = true := by simp [inW, WRW]
/-- what is owed for the reference's call of a pair -/
def REF (X : Scr) (dp y : Nat) (L : List Value) (K : Hp → Int32 → Int32 → Prop) (r : Int32) (h1 : Hp) : Prop := Ends X dp y 0 L [] h1 (fun w h2 => ∃ r2, w = some (.int r2) ∧ HS h2 ∧ K h2 r r2)
theorem row_pair (p a n : Int32) (hi : INVE h) {K : Hp → Int32 → Int32 → Prop} (hK : ∀ r h', INVE h' → frm WRW h h' → K h' r r) (hQ : ∀ r h1, HI h1 → REF X (dp + 1 + 1) 117 [.ref 93, .int p, .int a, .int n, .retAddr 0] K r h1 → Q (some (.int r)) h1) : Ends X (dp + 1 + 1) 67 0 [.ref 0, .int p, .int a, .int n, .retAddr 0] [] h Q := by
  have hh := hi.1.1
  have r1 : h.2.1 1 0 = h.2.1 93 0 := hi.1.2.2.2.2.2.2.1
  have ek : eqr h 2 94 7 := hi.2.1.1
  have b := hh.iv 1 0 (r := (0, 7)) rfl
  simp only at b
  refine crow_ok p a n hh (fun c => ?_) (fun c c2 => ?_) (fun c c2 c3 => ?_) (fun c c2 c3 => ?_)
  · rw [r1] at c
    exact hQ _ h hh (mrow_ok p a n hh (fun _ => ⟨_, rfl, hh.hs, hK _ h hi frm_refl⟩) (fun d => absurd d c) (fun d => absurd d c) (fun d => absurd d c))
  · have c' := c
    rw [r1] at c'
    exact hQ _ h hh (mrow_ok p a n hh (fun d => absurd c' d) (fun _ _ => ⟨_, rfl, hh.hs, hK _ h hi frm_refl⟩) (fun _ d => absurd d c2) (fun _ d => absurd d c2))
  · have c' := c
    rw [r1] at c'
    rw [ek p.toInt.toNat (by omega)] at c3
    exact hQ _ h hh (mrow_ok p a n hh (fun d => absurd c' d) (fun _ d => absurd c2 d) (fun _ _ _ => ⟨_, rfl, hh.hs, hK _ h hi frm_refl⟩) (fun _ _ d => absurd d c3))
  · have c' := c
    rw [r1] at c'
    have ei : (4 * p.toInt + a.toInt).toNat < 28 := by omega
    have ez : (4 * p.toInt + a.toInt).toNat < 4 * (h.2.1 1 0).toInt.toNat := by omega
    obtain ⟨ix, hx⟩ : ∃ ix, (4 * p.toInt + a.toInt).toNat = ix := ⟨_, rfl⟩
    rw [hx] at ei ez ⊢
    have g1 : HI (hpI h 7 ix n) := HI_put hh c2.1 c2.2
    have g2 : HI (hpI (hpI h 7 ix n) 99 ix n) := HI_put g1 c2.1 c2.2
    have f2 : frm WRW h (hpI (hpI h 7 ix n) 99 ix n) := frm_put (frm_put frm_refl WRW_7) WRW_99
    have c1 : 0 ≤ p.toInt ∧ p.toInt < ((hpI h 7 ix n).2.1 93 0).toInt ∧ 0 ≤ a.toInt ∧ a.toInt < 4 := by rw [put_ne (by omega)]; exact c'
    have c4 : (hpI h 7 ix n).2.1 94 p.toInt.toNat = 6 := by rw [put_ne (by omega), ← ek p.toInt.toNat (by omega)]; exact c3
    obtain ⟨q1, ⟨e1, e2, e3, e4⟩, q3, q4, q5, q6⟩ := hi.2
    have e9 : (hpI h 7 ix n).2.1 99 ix = h.2.1 7 ix := by rw [put_ne (by omega)]; exact (e1 ix ei).symm
    refine hQ _ _ g1 (mrow_ok p a n g1 (fun d => absurd c1 d) (fun _ d => absurd c2 d) (fun _ _ d => absurd c4 d) (fun _ _ _ => ⟨_, rfl, g1.hs, ?_⟩))
    rw [hx, e9]
    refine hK _ _ ⟨INV_fr (W := WRW) (by decide) g2 f2 hi.1, EK_f (W := WRW) (by decide) f2 q1, ⟨fun j hj => ?_, eqr_fr (fun j => frI f2 (by simp [inW, WRW])) (fun j => frI f2 (by simp [inW, WRW])) e2, fun j h1 h2 => ?_, zrr_fr (fun j => frI f2 (by simp [inW, WRW])) (frI f2 rfl) e4⟩, EB_f (W := WRW) (by decide) f2 q3, ES_f (W := WRW) (by decide) f2 q4, EA_f (W := WRW) (by decide) f2 q5, ET_f (W := WRW) (by decide) f2 q6⟩ f2
    · rw [put_ne (by omega), put_if, put_if, put_ne (by omega)]
      by_cases c9 : j = ix
      · rw [if_pos c9, if_pos c9]
      · rw [if_neg c9, if_neg c9]
        exact e1 j hj
    · rw [frI f2 (a := 1) (k := 0) rfl] at h1
      rw [put_ne (by omega), put_if, if_neg (by omega)]
      exact e3 j h1 h2
/-! bits of people -/
theorem msk_nat (n : Nat) (hn : n ≤ 7) (x : Nat) (hx : x < 4294967296) : x &&& (4294967296 - 2 ^ n) = 0 ↔ x < 2 ^ n := by
  have hC1 : ∀ n, n ≤ 7 → ∀ i, i < 32 → n ≤ i → (4294967296 - 2 ^ n).testBit i = true := by decide +kernel
  have hC2 : ∀ n, n ≤ 7 → ∀ i, i < 7 → i < n → (4294967296 - 2 ^ n).testBit i = false := by decide +kernel
  constructor
  · intro h0
    apply Nat.lt_of_not_le
    intro hge
    obtain ⟨i, hi, ht⟩ := Nat.exists_ge_and_testBit_of_ge_two_pow hge
    have hi32 : i < 32 := by
      apply Nat.lt_of_not_le
      intro hc
      have h9 : x < 2 ^ i := Nat.lt_of_lt_of_le hx (show 2 ^ 32 ≤ 2 ^ i from Nat.pow_le_pow_right (by decide) hc)
      rw [Nat.testBit_lt_two_pow h9] at ht
      cases ht
    have h8 := congrArg (fun y => y.testBit i) h0
    simp only [Nat.testBit_and, ht, hC1 n hn i hi32 hi, Nat.zero_testBit, Bool.and_self] at h8
    cases h8
  · intro hlt
    apply Nat.eq_of_testBit_eq
    intro i
    rw [Nat.testBit_and, Nat.zero_testBit]
    by_cases c : i < n
    · rw [hC2 n hn i (by omega) c, Bool.and_false]
    · rw [Nat.testBit_lt_two_pow (Nat.lt_of_lt_of_le hlt (Nat.pow_le_pow_right (by decide) (by omega))), Bool.false_and]
theorem msk {a e : Int32} {n : Nat} (hn : n ≤ 7) (he : e.toBitVec.toNat = 2 ^ n - 1) : a &&& (e ^^^ (-1)) = 0 ↔ 0 ≤ a.toInt ∧ a.toInt < ((2 ^ n : Nat) : Int) := by
  have hx : (e ^^^ (-1)).toBitVec.toNat = 4294967296 - 2 ^ n := by
    rw [Int32.toBitVec_xor, BitVec.toNat_xor, he]
    match n, hn with
    | 0, _ => decide
    | 1, _ => decide
    | 2, _ => decide
    | 3, _ => decide
    | 4, _ => decide
    | 5, _ => decide
    | 6, _ => decide
    | 7, _ => decide
    | n + 8, h => omega
  have hA : a &&& (e ^^^ (-1)) = 0 ↔ a.toBitVec.toNat &&& (4294967296 - 2 ^ n) = 0 := by
    rw [← hx, ← BitVec.toNat_and, ← Int32.toBitVec_and]
    constructor
    · intro h
      rw [h]
      rfl
    · intro h
      exact Int32.toBitVec_inj.mp (BitVec.eq_of_toNat_eq h)
  rw [hA, msk_nat n hn _ a.toBitVec.isLt]
  have ht : a.toInt = if 2 * a.toBitVec.toNat < 4294967296 then (a.toBitVec.toNat : Int) else (a.toBitVec.toNat : Int) - 4294967296 := BitVec.toInt_eq_toNat_cond a.toBitVec
  have hp : 2 ^ n ≤ 2 ^ 7 := Nat.pow_le_pow_right (by decide) hn
  have hl := a.toBitVec.isLt
  have h7 : (2 : Nat) ^ 7 = 128 := rfl
  rw [h7] at hp
  generalize 2 ^ n = m at hp ⊢
  generalize a.toBitVec.toNat = x at ht hl ⊢
  split at ht <;> omega
theorem ev_c {s : Int32} (h1 : 0 ≤ s.toInt) (h2 : s.toInt ≤ 7) : (((1 : Int32) <<< (s &&& 31)) - 1).toBitVec.toNat = 2 ^ s.toInt.toNat - 1 ∧ (((1 : Int32) <<< (s &&& 31)) - 1).toInt = ((2 ^ s.toInt.toNat - 1 : Nat) : Int) := by
  by_cases c : s.toInt = 7
  · have : s = 7 := Int32.toInt_inj.mp c
    subst this
    decide
  · rcases kcases h1 (by omega) with rfl | rfl | rfl | rfl | rfl | rfl | rfl <;> decide
theorem bfal {a b : Prop} [Decidable a] [Decidable b] (h : ¬ (a ∧ b)) : (decide a && decide b) = false := by
  by_cases c : a
  · rw [decide_eq_false (fun d : b => h ⟨c, d⟩), Bool.and_false]
  · rw [decide_eq_false c, Bool.false_and]
theorem btru {a b : Prop} [Decidable a] [Decidable b] (h : a ∧ b) : (decide a && decide b) = true := by
  rw [decide_eq_true h.1, decide_eq_true h.2]
  rfl
/-- bits of nobody but s people -/
def bitsOf (s a : Int32) : Prop := 0 ≤ a.toInt ∧ a.toInt < ((2 ^ s.toInt.toNat : Nat) : Int)
theorem call_all (a : Int32) (hh : HI h) (q1 : ¬ bitsOf (h.2.1 1 0) a → Q (some (.int 0)) h) (q2 : bitsOf (h.2.1 1 0) a → Q (some (.int 1)) h) : Ends X (dp + 1) 30 0 [.ref 1, .int a] [] h Q := by
  have b := hh.iv 1 0 (r := (0, 7)) rfl
  simp only at b
  have ev := (ev_c b.1 b.2).1
  exact w_call a hh.hs (w_cevr hh.hs ⟨_, rfl, hh.hs, fun e => q1 (fun c => (of_decide_eq_true e) ((msk (by omega) ev).mpr c)), fun e => q2 ((msk (by omega) ev).mp (Decidable.not_not.mp (of_decide_eq_false e)))⟩)
theorem min_ok (a : Int32) (hh : HI h) (q1 : ¬ bitsOf (h.2.1 93 0) a → Q (some (.int 0)) h) (q2 : bitsOf (h.2.1 93 0) a → Q (some (.int 1)) h) : Ends X dp 109 0 [.ref 93, .int a, .int 0, .int ((1 <<< ((h.2.1 93 0) &&& 31)) - 1)] [] h Q := by
  have b := hh.iv 93 0 (r := (0, 7)) rfl
  simp only at b
  have ev := (ev_c b.1 b.2).2
  refine in_ok _ _ _ hh.hs ?_
  have j0 : (0 : Int32).toInt = 0 := rfl
  rw [ev, j0]
  have hp : 0 < 2 ^ (h.2.1 93 0).toInt.toNat := Nat.pow_pos (by decide)
  unfold bitsOf at q1 q2
  generalize 2 ^ (h.2.1 93 0).toInt.toNat = m at hp q1 q2 ⊢
  by_cases c : 0 ≤ a.toInt ∧ a.toInt < (m : Int)
  · rw [btru ⟨c.1, by omega⟩]
    exact q2 c
  · rw [bfal (fun d => c ⟨d.1, by omega⟩)]
    exact q1 c
theorem c01 : condB .ne (0 : Int32) 0 = true → False := by decide
theorem c11 : condB .ne (1 : Int32) 0 = false → False := by decide
theorem csee_ok (a : Int32) (hh : HI h) (q1 : ¬ bitsOf (h.2.1 1 0) a → Q (some (.int (-2))) h) (q2 : bitsOf (h.2.1 1 0) a → Q (some (.int (h.2.1 1 9))) (hpI h 1 9 a)) : Ends X (dp + 1 + 1) 82 0 [.ref 0, .int a, .retAddr 0] [] h Q :=
  w_csee a hh.hs (call_all a hh (fun c => ⟨_, rfl, hh.hs, fun e => (c01 e).elim, fun _ => q1 c⟩) (fun c => ⟨_, rfl, hh.hs, fun _ => q2 c, fun e => (c11 e).elim⟩))
theorem msee_ok (a : Int32) (hh : HI h) (q1 : ¬ bitsOf (h.2.1 93 0) a → Q (some (.int (-2))) h) (q2 : bitsOf (h.2.1 93 0) a → Q (some (.int (h.2.1 93 41))) (hpI h 93 41 a)) : Ends X (dp + 1) 175 0 [.ref 93, .int a, .retAddr 0] [] h Q :=
  w_msee a hh.hs (w_mall hh.hs ⟨_, rfl, hh.hs, min_ok a hh (fun c => ⟨_, rfl, hh.hs, fun e => (c01 e).elim, fun _ => q1 c⟩) (fun c => ⟨_, rfl, hh.hs, fun _ => q2 c, fun e => (c11 e).elim⟩)⟩)
def WSE : List (Nat × Nat) := [(1, 9), (93, 41)]
theorem see_pair (a : Int32) (hi : INVE h) {K : Hp → Int32 → Int32 → Prop} (hK : ∀ r h', INVE h' → frm WSE h h' → K h' r r) (hQ : ∀ r h1, HI h1 → REF X (dp + 1 + 1) 175 [.ref 93, .int a, .retAddr 0] K r h1 → Q (some (.int r)) h1) : Ends X (dp + 1 + 1) 82 0 [.ref 0, .int a, .retAddr 0] [] h Q := by
  have hh := hi.1.1
  have r1 : h.2.1 1 0 = h.2.1 93 0 := hi.1.2.2.2.2.2.2.1
  refine csee_ok a hh (fun c => ?_) (fun c => ?_)
  · rw [r1] at c
    exact hQ _ h hh (msee_ok a hh (fun _ => ⟨_, rfl, hh.hs, hK _ h hi frm_refl⟩) (fun d => absurd d c))
  · rw [r1] at c
    obtain ⟨q1, q2, q3, ⟨s1, s2⟩, q5, q6⟩ := hi.2
    have g1 : HI (hpI h 1 9 a) := HI_put hh (fIr 1 9 a (by decide +kernel)).1 (fIr 1 9 a (by decide +kernel)).2
    have g2 : HI (hpI (hpI h 1 9 a) 93 41 a) := HI_put g1 (fIr 93 41 a (by decide +kernel)).1 (fIr 93 41 a (by decide +kernel)).2
    have f2 : frm WSE h (hpI (hpI h 1 9 a) 93 41 a) := frm_put (frm_put frm_refl rfl) rfl
    have e0 : (hpI h 1 9 a).2.1 93 0 = h.2.1 93 0 := put_ne (by omega)
    have e9 : (hpI h 1 9 a).2.1 93 41 = h.2.1 1 9 := by rw [put_ne (by omega)]; exact s1.symm
    refine hQ _ _ g1 (msee_ok a g1 (fun d => absurd (e0 ▸ c) d) (fun _ => ⟨_, rfl, g1.hs, ?_⟩))
    rw [e9]
    refine hK _ _ ⟨INV_fr (W := WSE) (by decide) g2 f2 hi.1, EK_f (W := WSE) (by decide) f2 q1, ER_f (W := WSE) (by decide) f2 q2, EB_f (W := WSE) (by decide) f2 q3, ⟨?_, ?_⟩, EA_f (W := WSE) (by decide) f2 q5, ET_f (W := WSE) (by decide) f2 q6⟩ f2
    · rw [put_ne (by omega), put_at, put_at]
    · rw [frI f2 rfl, frI f2 rfl]
      exact s2
/-! the book -/
theorem cbok_ok (a : Int32) (hh : HI h) (q0 : a = -1 → Q (some (.int 0)) (hpI h 1 11 0)) (q1 : ¬ a = -1 → ¬ bitsOf (h.2.1 1 0) a → Q (some (.int (-2))) h) (q2 : ¬ a = -1 → bitsOf (h.2.1 1 0) a → h.2.1 1 11 = 12 → Q (some (.int (-4))) h)
    (q3 : ¬ a = -1 → bitsOf (h.2.1 1 0) a → ¬ h.2.1 1 11 = 12 → Q (some (.int (h.2.1 1 11 + 1))) (hpI (hpI h 8 (h.2.1 1 11).toNatClampNeg a) 1 11 (h.2.1 1 11 + 1))) : Ends X (dp + 1 + 1) 86 0 [.ref 0, .int a] [] h Q := by
  have b := hh.iv 1 11 (r := (0, 12)) rfl
  have j12 : (12 : Int32).toInt = 12 := rfl
  simp only at b
  refine w_cbok a hh.hs ⟨fun e => call_all a hh (fun c => ⟨_, rfl, hh.hs, fun e => (c01 e).elim, fun _ => q1 (of_decide_eq_true e) c⟩) (fun c => ⟨_, rfl, hh.hs, fun _ => ⟨fun e2 => ?_, fun e2 => ?_⟩, fun e => (c11 e).elim⟩), fun e => q0 (Decidable.not_not.mp (of_decide_eq_false e))⟩
  · have e2 : (h.2.1 1 11).toInt < 12 := of_decide_eq_true (cI e2)
    exact ⟨inB_iff (by omega) (by omega), q3 (of_decide_eq_true e) c (fun d => by rw [d] at e2; omega)⟩
  · have e2 : ¬ (h.2.1 1 11).toInt < 12 := of_decide_eq_false (cI e2)
    exact q2 (of_decide_eq_true e) c (Int32.toInt_inj.mp (by rw [j12]; omega))
theorem mbok_ok (a : Int32) (hh : HI h) (q0 : a = -1 → Q (some (.int 0)) (hpI h 93 42 0)) (q1 : ¬ a = -1 → ¬ bitsOf (h.2.1 93 0) a → Q (some (.int (-2))) h) (q2 : ¬ a = -1 → bitsOf (h.2.1 93 0) a → h.2.1 93 42 = 12 → Q (some (.int (-4))) h)
    (q3 : ¬ a = -1 → bitsOf (h.2.1 93 0) a → ¬ h.2.1 93 42 = 12 → Q (some (.int (h.2.1 93 42 + 1))) (hpI (hpI h 114 (h.2.1 93 42).toNatClampNeg a) 93 42 (h.2.1 93 42 + 1))) : Ends X (dp + 1) 181 0 [.ref 93, .int a] [] h Q := by
  have b := hh.iv 93 42 (r := (0, 12)) rfl
  have j12 : (12 : Int32).toInt = 12 := rfl
  simp only at b
  refine w_mbok a hh.hs ⟨fun e => w_mall hh.hs ⟨_, rfl, hh.hs, min_ok a hh (fun c => ⟨_, rfl, hh.hs, fun e => (c01 e).elim, fun _ => q1 (of_decide_eq_true e) c⟩) (fun c => ⟨_, rfl, hh.hs, fun _ => ⟨fun e2 => ?_, fun e2 => ?_⟩, fun e => (c11 e).elim⟩)⟩, fun e => q0 (Decidable.not_not.mp (of_decide_eq_false e))⟩
  · have e2 : ¬ h.2.1 93 42 = 12 := of_decide_eq_true e2
    have e3 : ¬ (h.2.1 93 42).toInt = 12 := fun d => e2 (Int32.toInt_inj.mp (by rw [j12]; exact d))
    exact ⟨inB_iff (by omega) (by omega), q3 (of_decide_eq_true e) c e2⟩
  · exact q2 (of_decide_eq_true e) c (Decidable.not_not.mp (of_decide_eq_false e2))
def WBO : List (Nat × Nat) := [(8, 999), (1, 11), (114, 999), (93, 42)]
theorem WBO_8 {k : Nat} : inW WBO 8 k = true := by simp [inW, WBO]
theorem WBO_114 {k : Nat} : inW WBO 114 k = true := by simp [inW, WBO]
theorem ivl8 : ∀ j, j < 12 → ivl 8 j = (-2147483648, 2147483647) := by decide +kernel
theorem ivl114 : ∀ j, j < 12 → ivl 114 j = (-2147483648, 2147483647) := by decide +kernel
theorem book_pair (a : Int32) (hi : INVE h) {K : Hp → Int32 → Int32 → Prop} (hK : ∀ r h', INVE h' → frm WBO h h' → K h' r r) (hQ : ∀ r h1, HI h1 → REF X (dp + 1 + 1) 181 [.ref 93, .int a] K r h1 → Q (some (.int r)) h1) : Ends X (dp + 1 + 1) 86 0 [.ref 0, .int a] [] h Q := by
  have hh := hi.1.1
  have r1 : h.2.1 1 0 = h.2.1 93 0 := hi.1.2.2.2.2.2.2.1
  obtain ⟨q1, q2, ⟨s1, s2, s3, s4⟩, q4, q5, q6⟩ := id hi.2
  have b := hh.iv 1 11 (r := (0, 12)) rfl
  have j12 : (12 : Int32).toInt = 12 := rfl
  simp only at b
  refine cbok_ok a hh (fun c => ?_) (fun c c2 => ?_) (fun c c2 c3 => ?_) (fun c c2 c3 => ?_)
  · have g1 : HI (hpI h 1 11 0) := HI_put hh (by show (0 : Int) ≤ 0; decide) (by show (0 : Int) ≤ 12; decide)
    have g2 : HI (hpI (hpI h 1 11 0) 93 42 0) := HI_put g1 (by show (0 : Int) ≤ 0; decide) (by show (0 : Int) ≤ 12; decide)
    have f2 : frm WBO h (hpI (hpI h 1 11 0) 93 42 0) := frm_put (frm_put frm_refl rfl) rfl
    refine hQ _ _ g1 (mbok_ok a g1 (fun _ => ⟨_, rfl, g1.hs, hK _ _ ⟨INV_fr (W := WBO) (by decide) g2 f2 hi.1, EK_f (W := WBO) (by decide) f2 q1, ER_f (W := WBO) (by decide) f2 q2, ⟨?_, ?_, ?_, ?_⟩, ES_f (W := WBO) (by decide) f2 q4, EA_f (W := WBO) (by decide) f2 q5, ET_f (W := WBO) (by decide) f2 q6⟩ f2⟩) (fun d => absurd c d) (fun d => absurd c d) (fun d => absurd c d))
    · exact eqr_fr (fun j => by rw [put_ne (by omega), put_ne (by omega)]) (fun j => by rw [put_ne (by omega), put_ne (by omega)]) s1
    · exact eqr_fr (fun j => frI f2 (by simp [inW, WBO])) (fun j => frI f2 (by simp [inW, WBO])) s2
    · rw [put_ne (by omega), put_at, put_at]
    · rw [frI f2 rfl, frI f2 rfl]; exact s4
  · rw [r1] at c2
    exact hQ _ h hh (mbok_ok a hh (fun d => absurd d c) (fun _ _ => ⟨_, rfl, hh.hs, hK _ h hi frm_refl⟩) (fun _ d => absurd d c2) (fun _ d => absurd d c2))
  · rw [r1] at c2
    rw [s3] at c3
    exact hQ _ h hh (mbok_ok a hh (fun d => absurd d c) (fun _ d => absurd c2 d) (fun _ _ _ => ⟨_, rfl, hh.hs, hK _ h hi frm_refl⟩) (fun _ _ d => absurd c3 d))
  · rw [r1] at c2
    have c4 : ¬ (h.2.1 1 11).toInt = 12 := fun d => c3 (Int32.toInt_inj.mp (by rw [j12]; exact d))
    have gv : (h.2.1 1 11 + 1).toInt = (h.2.1 1 11).toInt + 1 := by rw [i_add (by rw [i1]; omega) (by rw [i1]; omega), i1]
    obtain ⟨n, hn⟩ : ∃ n, (h.2.1 1 11).toNatClampNeg = n := ⟨_, rfl⟩
    have hn2 : n < 12 := by
      have : (h.2.1 1 11).toInt.toNat = n := hn
      omega
    have e42 : h.2.1 93 42 = h.2.1 1 11 := s3.symm
    rw [hn]
    obtain ⟨u, hu⟩ : ∃ u, h.2.1 1 11 + 1 = u := ⟨_, rfl⟩
    rw [hu] at gv ⊢
    have g0 : HI (hpI h 8 n a) := HI_put hh (fIr 8 n a (ivl8 n hn2)).1 (fIr 8 n a (ivl8 n hn2)).2
    have g1 : HI (hpI (hpI h 8 n a) 1 11 u) := HI_put g0 (by show (0 : Int) ≤ _; omega) (by show _ ≤ (12 : Int); omega)
    have g2 : HI (hpI (hpI (hpI h 8 n a) 1 11 u) 114 n a) := HI_put g1 (fIr 114 n a (ivl114 n hn2)).1 (fIr 114 n a (ivl114 n hn2)).2
    have g3 : HI (hpI (hpI (hpI (hpI h 8 n a) 1 11 u) 114 n a) 93 42 u) := HI_put g2 (by show (0 : Int) ≤ _; omega) (by show _ ≤ (12 : Int); omega)
    have f2 : frm WBO h (hpI (hpI (hpI (hpI h 8 n a) 1 11 u) 114 n a) 93 42 u) := frm_put (frm_put (frm_put (frm_put frm_refl WBO_8) rfl) WBO_114) rfl
    have e0 : (hpI (hpI h 8 n a) 1 11 u).2.1 93 0 = h.2.1 93 0 := by rw [put_ne (by omega), put_ne (by omega)]
    have e1 : (hpI (hpI h 8 n a) 1 11 u).2.1 93 42 = h.2.1 1 11 := by rw [put_ne (by omega), put_ne (by omega), e42]
    refine hQ _ _ g1 (mbok_ok a g1 (fun d => absurd d c) (fun _ d => absurd (e0 ▸ c2) d) (fun _ _ d => absurd (e1 ▸ d) c3) (fun _ _ _ => ⟨_, rfl, g1.hs, ?_⟩))
    rw [e1, hn, hu]
    refine hK _ _ ⟨INV_fr (W := WBO) (by decide) g3 f2 hi.1, EK_f (W := WBO) (by decide) f2 q1, ER_f (W := WBO) (by decide) f2 q2, ⟨fun j hj => ?_, ?_, ?_, ?_⟩, ES_f (W := WBO) (by decide) f2 q4, EA_f (W := WBO) (by decide) f2 q5, ET_f (W := WBO) (by decide) f2 q6⟩ f2
    · rw [put_ne (by omega), put_ne (by omega), put_ne (by omega), put_if, put_ne (by omega), put_if, put_ne (by omega), put_ne (by omega)]
      by_cases c9 : j = n
      · rw [if_pos c9, if_pos c9]
      · rw [if_neg c9, if_neg c9]
        exact s1 j hj
    · exact eqr_fr (fun j => frI f2 (by simp [inW, WBO])) (fun j => frI f2 (by simp [inW, WBO])) s2
    · rw [put_ne (by omega), put_ne (by omega), put_at, put_at]
    · rw [frI f2 rfl, frI f2 rfl]; exact s4
end ROWS
