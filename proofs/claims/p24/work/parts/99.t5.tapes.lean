section JN99t5tapes
/-! Tapes: both sides exactly, and the pairs of calls. -/
section TAPES
variable {X : Scr} {dp : Nat} {h h0 : Hp} {Q : Option Value → Hp → Prop}
theorem inW1 {a b k : Nat} (h : ¬ b = a) : inW [(b, 999)] a k = false := by
  have : (b == a) = false := by simpa using h
  simp [inW, this]
theorem fil_go {a : Nat} (hA : (decide (a < 1000) && decide (SHl[a]? = some (.inl (1, 60)))) = true) (hQ : ∀ h', HI h' → frm [(a, 999)] h0 h' → (∀ j, j < 60 → h'.2.2.1 a j = 0) → Q none h') :
    ∀ (m n : Nat) (i : Int32) (h : Hp), HI h → frm [(a, 999)] h0 h → i.toInt = n → n + m = 60 → (∀ j, j < n → h.2.2.1 a j = 0) → Ends X dp 220 6 [.ref a, .long 0, .retAddr 0, .int i, .int 60] [] h Q
  | m, n, i, h, hh, hf, hi, hm, z => by
    have j60 : (60 : Int32).toInt = 60 := rfl
    refine w_fil1 a hA 0 i 60 hh.hs ⟨fun e => ?_, fun e => ?_⟩
    · have e : (60 : Int32).toInt ≤ i.toInt := of_decide_eq_true (cI e)
      exact hQ h hh hf (fun j hj => z j (by omega))
    · have e : ¬ (60 : Int32).toInt ≤ i.toInt := of_decide_eq_false (cI e)
      match m, hm with
      | 0, hm => omega
      | m + 1, hm =>
        have hi1 : (i + 1).toInt = ((n + 1 : Nat) : Int) := by rw [i_add (by rw [i1]; omega) (by rw [i1]; omega), i1]; omega
        have q : i.toNatClampNeg = n := by show i.toInt.toNat = _; omega
        refine ⟨inB_iff (by omega) (by omega), ?_⟩
        rw [q]
        refine fil_go hA hQ m (n + 1) (i + 1) _ (HI_putL hh) (frm_putL hf (by simp [inW])) hi1 (by omega) (fun j hj => ?_)
        by_cases c : j = n
        · rw [c, putL_at]
        · rw [putL_ne (by omega)]
          exact z j (by omega)
theorem fil_ok {a : Nat} (hA : (decide (a < 1000) && decide (SHl[a]? = some (.inl (1, 60)))) = true) (hh : HI h) (hQ : ∀ h', HI h' → frm [(a, 999)] h h' → (∀ j, j < 60 → h'.2.2.1 a j = 0) → Q none h') : Ends X dp 220 0 [.ref a, .long 0, .retAddr 0, .retAddr 0, .retAddr 0] [] h Q :=
  w_fil0 a hA 0 hh.hs (fil_go hA hQ 60 0 0 h hh frm_refl rfl rfl (fun j hj => absurd hj (Nat.not_lt_zero j)))
theorem row_A {t : Nat} (ht : t < 6) : (decide (57 + t < 1000) && decide (SHl[57 + t]? = some (.inl (1, 60)))) = true := by
  rw [Bool.and_eq_true, decide_eq_true_eq, decide_eq_true_eq]
  exact ⟨by omega, sh_rows t ht⟩
def WTC : List (Nat × Nat) := [(54, 999), (55, 999), (57, 999), (58, 999), (59, 999), (60, 999), (61, 999), (62, 999)]
theorem WTC_row {t k : Nat} (ht : t < 6) : inW WTC (57 + t) k = true := by
  match t, ht with
  | 0, _ => simp [inW, WTC]
  | 1, _ => simp [inW, WTC]
  | 2, _ => simp [inW, WTC]
  | 3, _ => simp [inW, WTC]
  | 4, _ => simp [inW, WTC]
  | 5, _ => simp [inW, WTC]
  | t + 6, h => omega
/-- a tape of the class becomes a row -/
def TBc (h h' : Hp) (t : Nat) (s m : Int32) : Prop := (∀ j, h'.2.1 54 j = if j = t then s else h.2.1 54 j) ∧ (∀ j, h'.2.1 55 j = if j = t then m else h.2.1 55 j) ∧ ∀ u k, u < 6 → k < 60 → h'.2.2.1 (57 + u) k = if u = t then 0 else h.2.2.1 (57 + u) k
theorem cbcm_ok (t s m : Int32) (hh : HI h) (rx : RX h) (ht : 0 ≤ t.toInt ∧ t.toInt ≤ 5) (hs1 : -1 ≤ s.toInt) (hs2 : s.toInt ≤ 4) (hm1 : 0 ≤ m.toInt) (hm2 : m.toInt ≤ 60) (hQ : ∀ h', HI h' → frm WTC h h' → TBc h h' t.toInt.toNat s m → Q none h') : Ends X (dp + 1) 38 0 [.ref 53, .int t, .int s, .int m] [] h Q := by
  have hs := hh.hs
  refine w_cbcm t s m hs (cex_ok t hs ⟨_, rfl, hs, fun e => ?_, fun e => ?_⟩)
  · exact absurd ht (bnand (cz e))
  have it : inB t 6 = true := inB_iff ht.1 (by omega)
  have hn : t.toInt.toNat < 6 := by omega
  have g : HI (hpI (hpI h 54 t.toInt.toNat s) 55 t.toInt.toNat m) := HI_put (HI_put hh hs1 hs2) hm1 hm2
  have f : frm WTC h (hpI (hpI h 54 t.toInt.toNat s) 55 t.toInt.toNat m) := frm_put (frm_put frm_refl (by simp [inW, WTC])) (by simp [inW, WTC])
  refine ⟨it, it, 57 + t.toInt.toNat, it, rx.1 _ hn, by omega, fil_ok (row_A hn) g (fun h' z1 z2 z3 => ⟨rfl, z1.hs, hQ h' z1 ?_ ⟨fun j => ?_, fun j => ?_, fun u k hu hk => ?_⟩⟩)⟩
  · refine frm_trans f (fun a k hk => z2 a k ?_)
    by_cases c : a = 57 + t.toInt.toNat
    · rw [c, WTC_row hn] at hk
      cases hk
    · exact inW1 (fun q => c q.symm)
  · have q : h'.2.1 54 j = (hpI (hpI h 54 t.toInt.toNat s) 55 t.toInt.toNat m).2.1 54 j := frI z2 (inW1 (by omega))
    rw [q, put_ne (by omega), put_if]
  · have q : h'.2.1 55 j = (hpI (hpI h 54 t.toInt.toNat s) 55 t.toInt.toNat m).2.1 55 j := frI z2 (inW1 (by omega))
    rw [q, put_if, put_ne (by omega)]
  · by_cases c : u = t.toInt.toNat
    · rw [if_pos c, c]
      exact z3 k hk
    · rw [if_neg c]
      exact (z2 (57 + u) k (inW1 (by omega))).2.1
def tpOK (t : Int32) : Prop := 0 ≤ t.toInt ∧ t.toInt ≤ 5
def gOK (s n : Int32) : Prop := s.toInt = -1 ∨ (0 ≤ s.toInt ∧ s.toInt ≤ 4 ∧ 0 ≤ n.toInt ∧ n.toInt ≤ 60)
def tBAD (s n : Int32) : Prop := s.toInt < -1 ∨ 4 < s.toInt ∨ (0 ≤ s.toInt ∧ 60 < n.toInt)
def tSZ (s n : Int32) : Prop := 0 ≤ s.toInt ∧ s.toInt ≤ 4 ∧ n.toInt < 0
def mOf (s n : Int32) : Int32 := if s.toInt < 0 then 0 else n
theorem ctap_ok (t s n : Int32) (hh : HI h) (rx : RX h) (q1 : ¬ tpOK t → Q (some (.int (-1))) h) (q2 : tpOK t → tBAD s n → Q (some (.int (-2))) h) (q3 : tpOK t → tSZ s n → Q (some (.int (-14))) h) (q4 : tpOK t → gOK s n → ∀ h', HI h' → frm WTC h h' → TBc h h' t.toInt.toNat s (mOf s n) → Q (some (.int 1)) h') : Ends X (dp + 1 + 1) 95 0 [.ref 0, .int t, .int s, .int n] [] h Q := by
  have hs := hh.hs
  have jm : (-1 : Int32).toInt = -1 := rfl
  have j4 : (4 : Int32).toInt = 4 := rfl
  have j60 : (60 : Int32).toInt = 60 := rfl
  have z0 : (0 : Int32).toInt = 0 := rfl
  refine w_ctap t s n hs (cex_ok t hs ⟨_, rfl, hs, fun e => ?_, fun e => q1 (bnand (cz2 e))⟩)
  have e : tpOK t := band (cn2 e)
  refine ⟨fun e2 => ⟨fun e3 => q2 e ?_, fun e3 => ⟨fun e4 => q2 e ?_, fun e4 => ⟨fun e5 => ⟨fun e6 => ?_, fun e6 => q3 e ?_⟩, fun e5 => q2 e ?_⟩⟩⟩, fun e2 => ?_⟩
  · have e2 : ¬ s = -1 := of_decide_eq_true e2
    have e3 : s.toInt < 0 := of_decide_eq_true (cI e3)
    have : ¬ s.toInt = -1 := fun d => e2 (Int32.toInt_inj.mp d)
    exact Or.inl (by omega)
  · have e4 : 4 < s.toInt := of_decide_eq_true (cI e4)
    exact Or.inr (Or.inl e4)
  · have e3 : ¬ s.toInt < 0 := of_decide_eq_false (cI e3)
    have e4 : ¬ 4 < s.toInt := of_decide_eq_false (cI e4)
    have e5 : n.toInt ≤ 60 := of_decide_eq_true (cI e5)
    have e6 : 0 ≤ n.toInt := of_decide_eq_true (cI e6)
    refine cbcm_ok t s n hh rx e (by omega) (by omega) e6 e5 (fun h' z1 z2 z3 => ⟨rfl, z1.hs, q4 e (Or.inr ⟨by omega, by omega, e6, e5⟩) h' z1 z2 ?_⟩)
    unfold mOf
    rw [if_neg e3]
    exact z3
  · have e3 : ¬ s.toInt < 0 := of_decide_eq_false (cI e3)
    have e4 : ¬ 4 < s.toInt := of_decide_eq_false (cI e4)
    have e6 : ¬ 0 ≤ n.toInt := of_decide_eq_false (cI e6)
    exact ⟨by omega, by omega, by omega⟩
  · have e3 : ¬ s.toInt < 0 := of_decide_eq_false (cI e3)
    have e5 : ¬ n.toInt ≤ 60 := of_decide_eq_false (cI e5)
    exact Or.inr (Or.inr ⟨by omega, by omega⟩)
  · have e2 : s = -1 := Decidable.not_not.mp (of_decide_eq_false e2)
    have e3 : s.toInt = -1 := by rw [e2]; rfl
    refine cbcm_ok t s 0 hh rx e (by omega) (by omega) (by decide) (by decide) (fun h' z1 z2 z3 => ⟨rfl, z1.hs, q4 e (Or.inl e3) h' z1 z2 ?_⟩)
    unfold mOf
    rw [if_pos (by omega)]
    exact z3
def WTM : List (Nat × Nat) := [(123, 999), (124, 999), (125, 999)]
theorem WTM_3 {k : Nat} : inW WTM 123 k = true := by simp [inW, WTM]
theorem WTM_4 {k : Nat} : inW WTM 124 k = true := by simp [inW, WTM]
theorem WTM_5 {k : Nat} : inW WTM 125 k = true := by simp [inW, WTM]
theorem idx60 {t k : Int32} {tn kn : Nat} (ht : t.toInt = tn) (hk : k.toInt = kn) (h1 : tn ≤ 5) (h2 : kn < 60) : ((60 * t) + k).toInt = ((60 * tn + kn : Nat) : Int) := by
  have j60 : (60 : Int32).toInt = 60 := rfl
  have e : (60 * t).toInt = 60 * t.toInt := by rw [i_mul (by rw [j60]; omega) (by rw [j60]; omega), j60]
  rw [i_add (by omega) (by omega)]
  omega
theorem mtap_go (t s n : Int32) (tn : Nat) (ht : t.toInt = tn) (h5 : tn ≤ 5) (hQ : ∀ h', HI h' → frm WTM h0 h' → h'.2.1 = h0.2.1 → (∀ x, h'.2.2.1 125 x = if 60 * tn ≤ x ∧ x < 60 * tn + 60 then 0 else h0.2.2.1 125 x) → Q (some (.int 1)) h') :
    ∀ (m i : Nat) (k : Int32) (h : Hp), HI h → frm WTM h0 h → h.2.1 = h0.2.1 → k.toInt = i → i + m = 60 → (∀ x, h.2.2.1 125 x = if 60 * tn ≤ x ∧ x < 60 * tn + i then 0 else h0.2.2.1 125 x) → Ends X dp 199 69 [.ref 93, .int t, .int s, .int n, .int k] [] h Q
  | m, i, k, h, hh, hf, he, hk, hm, z => by
    have j60 : (60 : Int32).toInt = 60 := rfl
    refine w_mtap1 t s n k hh.hs ⟨fun e => ?_, fun e => ?_⟩
    · have e : (60 : Int32).toInt ≤ k.toInt := of_decide_eq_true (cI e)
      have : i = 60 := by omega
      exact hQ h hh hf he (this ▸ z)
    · have e : ¬ (60 : Int32).toInt ≤ k.toInt := of_decide_eq_false (cI e)
      match m, hm with
      | 0, hm => omega
      | m + 1, hm =>
        have hk1 : (k + 1).toInt = ((i + 1 : Nat) : Int) := by rw [i_add (by rw [i1]; omega) (by rw [i1]; omega), i1]; omega
        have ei := idx60 ht hk h5 (by omega)
        have q : ((60 * t) + k).toNatClampNeg = 60 * tn + i := by show ((60 * t) + k).toInt.toNat = _; rw [ei]; rfl
        refine ⟨inB_iff (by rw [ei]; omega) (by rw [ei]; omega), ?_⟩
        rw [q]
        refine mtap_go t s n tn ht h5 hQ m (i + 1) (k + 1) _ (HI_putL hh) (frm_putL hf WTM_5) he hk1 (by omega) (fun x => ?_)
        by_cases c : x = 60 * tn + i
        · rw [c, putL_at, if_pos (by omega)]
        · rw [putL_ne (by omega), z x]
          by_cases d : 60 * tn ≤ x ∧ x < 60 * tn + i
          · rw [if_pos d, if_pos (by omega)]
          · rw [if_neg d, if_neg (by omega)]
/-- a tape of the reference becomes a row -/
def TBm (h h' : Hp) (t : Nat) (s m : Int32) : Prop := (∀ j, h'.2.1 123 j = if j = t then s else h.2.1 123 j) ∧ (∀ j, h'.2.1 124 j = if j = t then m else h.2.1 124 j) ∧ ∀ x, h'.2.2.1 125 x = if 60 * t ≤ x ∧ x < 60 * t + 60 then 0 else h.2.2.1 125 x
theorem mtap_s (t s n m : Int32) (hh : HI h) (ht : tpOK t) (hs1 : -1 ≤ s.toInt) (hs2 : s.toInt ≤ 4) (hm1 : 0 ≤ m.toInt) (hm2 : m.toInt ≤ 60) (hQ : ∀ h', HI h' → frm WTM h h' → TBm h h' t.toInt.toNat s m → Q (some (.int 1)) h') : Ends X dp 199 69 [.ref 93, .int t, .int s, .int n, .int 0] [] (hpI (hpI h 123 t.toNatClampNeg s) 124 t.toNatClampNeg m) Q := by
  have g : HI (hpI (hpI h 123 t.toInt.toNat s) 124 t.toInt.toNat m) := HI_put (HI_put hh hs1 hs2) hm1 hm2
  have f : frm WTM h (hpI (hpI h 123 t.toInt.toNat s) 124 t.toInt.toNat m) := frm_put (frm_put frm_refl WTM_3) WTM_4
  have ht' : t.toInt = (t.toInt.toNat : Int) := (Int.toNat_of_nonneg ht.1).symm
  have h5 : t.toInt.toNat ≤ 5 := by have := ht.2; omega
  show Ends X dp 199 69 _ [] (hpI (hpI h 123 t.toInt.toNat s) 124 t.toInt.toNat m) Q
  refine mtap_go (h0 := hpI (hpI h 123 t.toInt.toNat s) 124 t.toInt.toNat m) t s n t.toInt.toNat ht' h5 (fun h' z1 z2 z3 z4 => hQ h' z1 (frm_trans f z2) ⟨fun j => ?_, fun j => ?_, z4⟩) 60 0 0 _ g frm_refl rfl rfl rfl (fun x => by rw [if_neg (by omega)])
  · rw [z3, put_ne (by omega), put_if]
  · rw [z3, put_if, put_ne (by omega)]
theorem noc {b : Bool} (h1 : b = true) (h2 : b = false) : False := by rw [h1] at h2; cases h2
theorem mtap_ok (t s n : Int32) (hh : HI h) (q1 : ¬ tpOK t → Q (some (.int (-1))) h) (q2 : tpOK t → tBAD s n → Q (some (.int (-2))) h) (q3 : tpOK t → tSZ s n → Q (some (.int (-14))) h) (q4 : tpOK t → gOK s n → ∀ h', HI h' → frm WTM h h' → TBm h h' t.toInt.toNat s (mOf s n) → Q (some (.int 1)) h') : Ends X (dp + 1 + 1) 199 0 [.ref 93, .int t, .int s, .int n, .retAddr 0] [] h Q := by
  have hs := hh.hs
  have jm : (-1 : Int32).toInt = -1 := rfl
  have j4 : (4 : Int32).toInt = 4 := rfl
  refine w_mtap0 t s n hs (tape_ok t hs ⟨_, rfl, hs, fun e => ?_, fun e => q1 (bnand (cz2 e))⟩)
  have e : tpOK t := band (cn2 e)
  have it : inB t 6 = true := inB_iff e.1 (by have := e.2; omega)
  refine in_ok _ _ _ hs ⟨_, rfl, hs, fun e2 => q2 e ?_, fun e2 => ?_⟩
  · have e2 := bnand (cz e2)
    rw [jm, j4] at e2
    unfold tBAD
    omega
  have e2 := band (cn e2)
  rw [jm, j4] at e2
  refine ⟨fun e3 => ?_, fun e3 => ?_⟩
  · have e4 : s.toInt < 0 := of_decide_eq_true (cI e3)
    have em : mOf s n = 0 := by unfold mOf; rw [if_pos e4]
    have := q4 e (Or.inl (by omega))
    rw [em] at this
    refine ⟨fun _ => ⟨it, fun e5 => ?_, fun _ => ⟨it, mtap_s t s n 0 hh e e2.1 e2.2 (by decide) (by decide) this⟩⟩, fun e5 => (noc e3 e5).elim⟩
    have e5 : 0 ≤ s.toInt := of_decide_eq_true (cI e5)
    omega
  · have e4 : ¬ s.toInt < 0 := of_decide_eq_false (cI e3)
    refine ⟨fun e5 => ⟨fun e6 => (noc e6 e3).elim, fun _ => ⟨fun e6 => ⟨it, fun _ => ⟨it, ?_⟩, fun e7 => ?_⟩, fun e6 => q3 e ?_⟩⟩, fun e5 => q2 e ?_⟩
    · have e5 : n.toInt ≤ 60 := of_decide_eq_true (cI e5)
      have e6 : 0 ≤ n.toInt := of_decide_eq_true (cI e6)
      have em : mOf s n = n := by unfold mOf; rw [if_neg e4]
      have := q4 e (Or.inr ⟨by omega, by omega, e6, e5⟩)
      rw [em] at this
      exact mtap_s t s n n hh e e2.1 e2.2 e6 e5 this
    · exfalso
      have e7 : ¬ 0 ≤ s.toInt := of_decide_eq_false (cI e7)
      omega
    · have e6 : ¬ 0 ≤ n.toInt := of_decide_eq_false (cI e6)
      exact ⟨by omega, by omega, by omega⟩
    · have e5 : ¬ n.toInt ≤ 60 := of_decide_eq_false (cI e5)
      exact Or.inr (Or.inr ⟨by omega, by omega⟩)
def WTA : List (Nat × Nat) := WTC ++ WTM
theorem xor3 {s n : Int32} : (tBAD s n ∧ ¬ tSZ s n ∧ ¬ gOK s n) ∨ (¬ tBAD s n ∧ tSZ s n ∧ ¬ gOK s n) ∨ (¬ tBAD s n ∧ ¬ tSZ s n ∧ gOK s n) := by
  unfold tBAD tSZ gOK
  omega
theorem tape_pair (t s n : Int32) (hi : INVE h) {K : Hp → Int32 → Int32 → Prop} (hK : ∀ r h', INVE h' → frm WTA h h' → K h' r r) (hQ : ∀ r h1, HI h1 → REF X (dp + 1 + 1) 199 [.ref 93, .int t, .int s, .int n, .retAddr 0] K r h1 → Q (some (.int r)) h1) : Ends X (dp + 1 + 1) 95 0 [.ref 0, .int t, .int s, .int n] [] h Q := by
  have hh := hi.1.1
  refine ctap_ok t s n hh hi.1.2.2.2.2.2.1 (fun c => ?_) (fun c c2 => ?_) (fun c c2 => ?_) (fun c c2 h1 z1 z2 z3 => ?_)
  · exact hQ _ h hh (mtap_ok t s n hh (fun _ => ⟨_, rfl, hh.hs, hK _ h hi frm_refl⟩) (fun d => absurd d c) (fun d => absurd d c) (fun d => absurd d c))
  · rcases xor3 (s := s) (n := n) with x | x | x
    · exact hQ _ h hh (mtap_ok t s n hh (fun d => absurd c d) (fun _ _ => ⟨_, rfl, hh.hs, hK _ h hi frm_refl⟩) (fun _ d => absurd d x.2.1) (fun _ d => absurd d x.2.2))
    · exact absurd c2 x.1
    · exact absurd c2 x.1
  · rcases xor3 (s := s) (n := n) with x | x | x
    · exact absurd c2 x.2.1
    · exact hQ _ h hh (mtap_ok t s n hh (fun d => absurd c d) (fun _ d => absurd d x.1) (fun _ _ => ⟨_, rfl, hh.hs, hK _ h hi frm_refl⟩) (fun _ d => absurd d x.2.2))
    · exact absurd c2 x.2.1
  · rcases xor3 (s := s) (n := n) with x | x | x
    · exact absurd c2 x.2.2
    · exact absurd c2 x.2.2
    · refine hQ _ h1 z1 (mtap_ok t s n z1 (fun d => absurd c d) (fun _ d => absurd d x.1) (fun _ d => absurd d x.2.1) (fun _ _ h2 y1 y2 y3 => ⟨_, rfl, y1.hs, hK _ h2 ?_ (frm_trans (frm_mono (by decide) z2) (frm_mono (by decide) y2))⟩))
      have f : frm WTA h h2 := frm_trans (frm_mono (by decide) z2) (frm_mono (by decide) y2)
      obtain ⟨p1, p2, p3, p4, p5, t1, t2, t3, t4, t5⟩ := hi.2
      obtain ⟨z3, z4, z5⟩ := z3
      obtain ⟨y3, y4, y5⟩ := y3
      have hn : t.toInt.toNat < 6 := by have := c.2; have := c.1; omega
      refine ⟨INV_fr (W := WTA) (by decide) y1 f hi.1, EK_f (W := WTA) (by decide) f p1, ER_f (W := WTA) (by decide) f p2, EB_f (W := WTA) (by decide) f p3, ES_f (W := WTA) (by decide) f p4, EA_f (W := WTA) (by decide) f p5, fun j hj => ?_, fun j hj => ?_, fun u k hu hk => ?_, fun u hu hc => ?_, fun u k hu hk hc => ?_⟩
      · rw [frI y2 (a := 54) (by simp [inW, WTM]), z3 j, y3 j, frI z2 (a := 123) (by simp [inW, WTC])]
        by_cases d : j = t.toInt.toNat
        · rw [if_pos d, if_pos d]
        · rw [if_neg d, if_neg d]; exact t1 j hj
      · rw [frI y2 (a := 55) (by simp [inW, WTM]), z4 j, y4 j, frI z2 (a := 124) (by simp [inW, WTC])]
        by_cases d : j = t.toInt.toNat
        · rw [if_pos d, if_pos d]
        · rw [if_neg d, if_neg d]; exact t2 j hj
      · have a1 : h2.2.2.1 (57 + u) k = h1.2.2.1 (57 + u) k := (y2 (57 + u) k (by simp [inW, WTM]; omega)).2.1
        have a2 : ∀ x, h1.2.2.1 125 x = h.2.2.1 125 x := fun x => (z2 125 x (by simp [inW, WTC])).2.1
        rw [a1, z5 u k hu hk, y5, a2]
        by_cases d : u = t.toInt.toNat
        · rw [if_pos d, if_pos (by omega)]
        · rw [if_neg d, if_neg (by omega)]; exact t3 u k hu hk
      · rw [frI y2 (a := 54) (by simp [inW, WTM]), z3 u] at hc
        rw [frI y2 (a := 55) (by simp [inW, WTM]), z4 u]
        by_cases d : u = t.toInt.toNat
        · rw [if_pos d] at hc ⊢
          unfold mOf
          rw [if_pos (by omega)]
        · rw [if_neg d] at hc ⊢
          exact t4 u hu hc
      · rw [frI y2 (a := 54) (by simp [inW, WTM]), z3 u] at hc
        have a1 : h2.2.2.1 (57 + u) k = h1.2.2.1 (57 + u) k := (y2 (57 + u) k (by simp [inW, WTM]; omega)).2.1
        rw [a1, z5 u k hu hk]
        by_cases d : u = t.toInt.toNat
        · rw [if_pos d]
          exact Or.inl rfl
        · rw [if_neg d] at hc ⊢
          exact t5 u k hu hk hc
/-! an item -/
theorem i64 {i : Int32} : i.toInt64.toInt = i.toInt := Int32.toInt_toInt64 i
theorem l0 : (0 : Int64).toInt = 0 := rfl
theorem l60 : (60 : Int64).toInt = 60 := rfl
theorem chpl_ok (t i : Int32) (ht : tpOK t) (hh : HI h) (hQ : Q (some (.int (b2i (decide (0 ≤ i.toInt) && decide (i.toInt < (h.2.1 55 t.toInt.toNat).toInt))))) h) : Ends X (dp + 1) 36 0 [.ref 53, .int t, .long i.toInt64, .retAddr 0] [] h Q := by
  have b := hh.iv 55 t.toInt.toNat (r := (0, 60)) rfl
  simp only at b
  have eL : (h.2.1 55 t.toNatClampNeg).toInt64.toInt = (h.2.1 55 t.toInt.toNat).toInt := Int32.toInt_toInt64 _
  refine w_chpl t i.toInt64 hh.hs (cex_ok t hh.hs ⟨_, rfl, hh.hs, fun e => absurd ht (bnand (cz e)), fun e => ⟨fun e2 => ?_, fun e2 => ⟨inB_iff ht.1 (by have := ht.2; omega), fun e3 => ?_, fun e3 => ⟨fun e4 => ?_, fun e4 => ?_⟩⟩⟩⟩)
  · have e2 : (lg_cmp i.toInt64 0).toInt < 0 := of_decide_eq_true (cI e2)
    rw [lgc, i64, l0] at e2
    have : ¬ 0 ≤ i.toInt := by
      split at e2
      · omega
      · split at e2 <;> omega
    rwa [decide_eq_false this] at hQ
  all_goals
    have e2 : ¬ (lg_cmp i.toInt64 0).toInt < 0 := of_decide_eq_false (cI e2)
    rw [lgc, i64, l0] at e2
    have e2 : 0 ≤ i.toInt := by
      split at e2
      · omega
      · omega
  · have e3 : 0 ≤ (lg_cmp i.toInt64 (h.2.1 55 t.toNatClampNeg).toInt64).toInt := of_decide_eq_true (cI e3)
    rw [lgc, i64, eL] at e3
    have : ¬ i.toInt < (h.2.1 55 t.toInt.toNat).toInt := by
      split at e3
      · omega
      · omega
    rwa [decide_eq_true e2, decide_eq_false this] at hQ
  all_goals
    have e3 : ¬ 0 ≤ (lg_cmp i.toInt64 (h.2.1 55 t.toNatClampNeg).toInt64).toInt := of_decide_eq_false (cI e3)
    rw [lgc, i64, eL] at e3
    have e3 : i.toInt < (h.2.1 55 t.toInt.toNat).toInt := by
      split at e3
      · omega
      · split at e3 <;> omega
  · exfalso
    have e4 : 0 ≤ (lg_cmp i.toInt64 60).toInt := of_decide_eq_true (cI e4)
    rw [lgc, i64, l60] at e4
    split at e4
    · omega
    · omega
  · rwa [decide_eq_true e2, decide_eq_true e3] at hQ
/-- a value as a sort has it -/
def sA (s : Int32) (v : Int64) : Int64 := if s = 0 then v.toInt32.toInt8.toInt32.toInt64 else if s = 1 then v.toInt32.toInt16.toInt32.toInt64 else if s = 2 then v.toInt32.toInt64 else if s = 4 then (if v = 0 then 0 else 1) else v
theorem lg_z {v : Int64} : (lg_cmp v 0).toInt = 0 ↔ v = 0 := by
  rw [lgc, l0]
  constructor
  · intro h
    apply Int64.toInt_inj.mp
    rw [l0]
    split at h
    · omega
    · split at h
      · assumption
      · omega
  · intro h
    rw [h, l0]
    rfl
theorem cass_ok (s : Int32) (v : Int64) (hs : HS h) (b1 : -1 ≤ s.toInt) (b2 : s.toInt ≤ 4) (hQ : Q (some (.long (sA s v))) h) : Ends X dp 39 0 [.int s, .long v, .retAddr 0] [] h Q := by
  unfold sA at hQ
  have e : ∀ c : Int32, s.toInt = c.toInt → s = c := fun c q => Int32.toInt_inj.mp q
  refine w_cass s v hs ⟨fun c => ?_, fun c => ?_, fun c => ?_, fun c => ?_, fun c => ?_, fun c => ⟨fun d => ?_, fun d => ?_⟩⟩
  · have n0 : ¬ s = 0 := fun d => by rw [d] at c; revert c; decide
    have n1 : ¬ s = 1 := fun d => by rw [d] at c; revert c; decide
    have n2 : ¬ s = 2 := fun d => by rw [d] at c; revert c; decide
    have n4 : ¬ s = 4 := fun d => by rw [d] at c; revert c; decide
    rwa [if_neg n0, if_neg n1, if_neg n2, if_neg n4] at hQ
  · rw [e 0 c] at hQ
    exact hQ
  · rw [e 1 c] at hQ
    exact hQ
  · rw [e 2 c] at hQ
    exact hQ
  · rw [e 3 c] at hQ
    exact hQ
  · have d : (lg_cmp v 0).toInt = 0 := of_decide_eq_true (cI d)
    rw [e 4 c, if_pos (lg_z.mp d)] at hQ
    exact hQ
  · have d : ¬ (lg_cmp v 0).toInt = 0 := of_decide_eq_false (cI d)
    rw [e 4 c, if_neg (fun q => d (lg_z.mpr q))] at hQ
    exact hQ
theorem mnar_ok (s : Int32) (v : Int64) (hs : HS h) (hQ : Q (some (.long (sA s v))) h) : Ends X dp 200 0 [.ref 93, .int s, .long v, .retAddr 0] [] h Q := by
  unfold sA at hQ
  refine w_mnar s v hs ⟨fun c0 => ⟨fun c1 => ⟨fun c2 => ⟨fun c4 => ?_, fun c4 => ⟨fun d => ?_, fun d => ?_⟩⟩, fun c2 => ?_⟩, fun c1 => ?_⟩, fun c0 => ?_⟩
  · rwa [if_neg (of_decide_eq_true c0), if_neg (of_decide_eq_true c1), if_neg (of_decide_eq_true c2), if_neg (of_decide_eq_true c4)] at hQ
  · have d : (lg_cmp v 0).toInt = 0 := of_decide_eq_true (cI d)
    rwa [if_neg (of_decide_eq_true c0), if_neg (of_decide_eq_true c1), if_neg (of_decide_eq_true c2), if_pos (Decidable.not_not.mp (of_decide_eq_false c4)), if_pos (lg_z.mp d)] at hQ
  · have d : ¬ (lg_cmp v 0).toInt = 0 := of_decide_eq_false (cI d)
    rwa [if_neg (of_decide_eq_true c0), if_neg (of_decide_eq_true c1), if_neg (of_decide_eq_true c2), if_pos (Decidable.not_not.mp (of_decide_eq_false c4)), if_neg (fun q => d (lg_z.mpr q))] at hQ
  · rwa [if_neg (of_decide_eq_true c0), if_neg (of_decide_eq_true c1), if_pos (Decidable.not_not.mp (of_decide_eq_false c2))] at hQ
  · rwa [if_neg (of_decide_eq_true c0), if_pos (Decidable.not_not.mp (of_decide_eq_false c1))] at hQ
  · rwa [if_pos (Decidable.not_not.mp (of_decide_eq_false c0))] at hQ
/-- i is a place of a row of n -/
def iOK (i n : Int32) : Prop := 0 ≤ i.toInt ∧ i.toInt < n.toInt
theorem citm_ok (t i : Int32) (v : Int64) (hh : HI h) (rx : RX h) (q1 : ¬ tpOK t → Q (some (.int (-1))) h) (q2 : tpOK t → (h.2.1 54 t.toInt.toNat).toInt < 0 → Q (some (.int (-11))) h) (q3 : tpOK t → ¬ (h.2.1 54 t.toInt.toNat).toInt < 0 → ¬ iOK i (h.2.1 55 t.toInt.toNat) → Q (some (.int (-13))) h)
    (q4 : tpOK t → ¬ (h.2.1 54 t.toInt.toNat).toInt < 0 → iOK i (h.2.1 55 t.toInt.toNat) → Q (some (.int 1)) (hpL h (57 + t.toInt.toNat) i.toInt.toNat (sA (h.2.1 54 t.toInt.toNat) v))) : Ends X (dp + 1 + 1) 96 0 [.ref 0, .int t, .int i, .long v, .retAddr 0] [] h Q := by
  have hs := hh.hs
  have b := hh.iv 54 t.toInt.toNat (r := (-1, 4)) rfl
  have b5 := hh.iv 55 t.toInt.toNat (r := (0, 60)) rfl
  simp only at b b5
  refine w_citm t i v hs (cex_ok t hs ⟨_, rfl, hs, fun e => ?_, fun e => q1 (bnand (cz2 e))⟩)
  have e : tpOK t := band (cn2 e)
  have it : inB t 6 = true := inB_iff e.1 (by have := e.2; omega)
  have hn : t.toInt.toNat < 6 := by have := e.1; have := e.2; omega
  refine ⟨it, fun e2 => chpl_ok t i e hh ⟨_, rfl, hs, fun e3 => ?_, fun e3 => ?_⟩, fun e2 => q2 e ?_⟩
  · have e2 : ¬ (h.2.1 54 t.toInt.toNat).toInt = -1 := of_decide_eq_true (cI e2)
    have e3 : iOK i (h.2.1 55 t.toInt.toNat) := band (cn2 e3)
    exact ⟨57 + t.toInt.toNat, it, rx.1 _ hn, by omega, it, cass_ok _ v hs b.1 b.2 ⟨_, rfl, hs, row_A hn, inB_iff e3.1 (by have := e3.2; omega), q4 e (by omega) e3⟩⟩
  · have e2 : ¬ (h.2.1 54 t.toInt.toNat).toInt = -1 := of_decide_eq_true (cI e2)
    exact q3 e (by omega) (bnand (cz2 e3))
  · have e2 : ¬ ¬ (h.2.1 54 t.toInt.toNat).toInt = -1 := of_decide_eq_false (cI e2)
    omega
theorem mitm_ok (t i : Int32) (v : Int64) (hh : HI h) (q1 : ¬ tpOK t → Q (some (.int (-1))) h) (q2 : tpOK t → (h.2.1 123 t.toInt.toNat).toInt < 0 → Q (some (.int (-11))) h) (q3 : tpOK t → ¬ (h.2.1 123 t.toInt.toNat).toInt < 0 → ¬ iOK i (h.2.1 124 t.toInt.toNat) → Q (some (.int (-13))) h)
    (q4 : tpOK t → ¬ (h.2.1 123 t.toInt.toNat).toInt < 0 → iOK i (h.2.1 124 t.toInt.toNat) → Q (some (.int 1)) (hpL h 125 (60 * t.toInt.toNat + i.toInt.toNat) (sA (h.2.1 123 t.toInt.toNat) v))) : Ends X (dp + 1 + 1) 201 0 [.ref 93, .int t, .int i, .long v, .retAddr 0] [] h Q := by
  have hs := hh.hs
  have b5 := hh.iv 124 t.toInt.toNat (r := (0, 60)) rfl
  have j0 : (0 : Int32).toInt = 0 := rfl
  simp only at b5
  have el : (h.2.1 124 t.toNatClampNeg - 1).toInt = (h.2.1 124 t.toInt.toNat).toInt - 1 := by
    show (h.2.1 124 t.toInt.toNat - 1).toInt = _
    rw [i_sub (by rw [i1]; omega) (by rw [i1]; omega), i1]
  refine w_mitm t i v hs (tape_ok t hs ⟨_, rfl, hs, fun e => ?_, fun e => q1 (bnand (cz2 e))⟩)
  have e : tpOK t := band (cn2 e)
  have it : inB t 6 = true := inB_iff e.1 (by have := e.2; omega)
  have hn : t.toInt.toNat < 6 := by have := e.1; have := e.2; omega
  refine ⟨it, fun e2 => ⟨it, in_ok _ _ _ hs ⟨_, rfl, hs, fun e3 => ?_, fun e3 => ?_⟩⟩, fun e2 => q2 e ?_⟩
  · have e2 : 0 ≤ (h.2.1 123 t.toInt.toNat).toInt := of_decide_eq_true (cI e2)
    have e3 := band (cn2 e3)
    rw [el, j0] at e3
    have e4 : iOK i (h.2.1 124 t.toInt.toNat) := ⟨e3.1, by omega⟩
    have ei := idx60 (t := t) (k := i) (tn := t.toInt.toNat) (kn := i.toInt.toNat) (by have := e.1; omega) (by omega) (by omega) (by omega)
    have en : ((60 * t) + i).toNatClampNeg = 60 * t.toInt.toNat + i.toInt.toNat := by show ((60 * t) + i).toInt.toNat = _; rw [ei]; rfl
    refine ⟨it, mnar_ok _ v hs ⟨_, rfl, hs, inB_iff (by rw [ei]; omega) (by rw [ei]; omega), ?_⟩⟩
    rw [en]
    exact q4 e (by omega) e4
  · have e2 : 0 ≤ (h.2.1 123 t.toInt.toNat).toInt := of_decide_eq_true (cI e2)
    have e3 := bnand (cz2 e3)
    rw [el, j0] at e3
    exact q3 e (by omega) (fun d => e3 ⟨d.1, by have := d.2; omega⟩)
  · have e2 : ¬ 0 ≤ (h.2.1 123 t.toInt.toNat).toInt := of_decide_eq_false (cI e2)
    omega
def WIT : List (Nat × Nat) := [(57, 999), (58, 999), (59, 999), (60, 999), (61, 999), (62, 999), (125, 999)]
theorem WIT_row {t k : Nat} (ht : t < 6) : inW WIT (57 + t) k = true := by
  match t, ht with
  | 0, _ => simp [inW, WIT]
  | 1, _ => simp [inW, WIT]
  | 2, _ => simp [inW, WIT]
  | 3, _ => simp [inW, WIT]
  | 4, _ => simp [inW, WIT]
  | 5, _ => simp [inW, WIT]
  | t + 6, h => omega
theorem WIT_5 {k : Nat} : inW WIT 125 k = true := by simp [inW, WIT]
theorem item_pair (t i : Int32) (v : Int64) (hi : INVE h) {K : Hp → Int32 → Int32 → Prop} (hK : ∀ r h', INVE h' → frm WIT h h' → K h' r r) (hQ : ∀ r h1, HI h1 → REF X (dp + 1 + 1) 201 [.ref 93, .int t, .int i, .long v, .retAddr 0] K r h1 → Q (some (.int r)) h1) : Ends X (dp + 1 + 1) 96 0 [.ref 0, .int t, .int i, .long v, .retAddr 0] [] h Q := by
  have hh := hi.1.1
  obtain ⟨p1, p2, p3, p4, p5, t1, t2, t3, t4, t5⟩ := id hi.2
  have eS : tpOK t → h.2.1 54 t.toInt.toNat = h.2.1 123 t.toInt.toNat := fun c => t1 _ (by have := c.1; have := c.2; omega)
  have eL : tpOK t → h.2.1 55 t.toInt.toNat = h.2.1 124 t.toInt.toNat := fun c => t2 _ (by have := c.1; have := c.2; omega)
  refine citm_ok t i v hh hi.1.2.2.2.2.2.1 (fun c => ?_) (fun c c2 => ?_) (fun c c2 c3 => ?_) (fun c c2 c3 => ?_)
  · exact hQ _ h hh (mitm_ok t i v hh (fun _ => ⟨_, rfl, hh.hs, hK _ h hi frm_refl⟩) (fun d => absurd d c) (fun d => absurd d c) (fun d => absurd d c))
  · rw [eS c] at c2
    exact hQ _ h hh (mitm_ok t i v hh (fun d => absurd c d) (fun _ _ => ⟨_, rfl, hh.hs, hK _ h hi frm_refl⟩) (fun _ d => absurd c2 d) (fun _ d => absurd c2 d))
  · rw [eS c] at c2
    rw [eL c] at c3
    exact hQ _ h hh (mitm_ok t i v hh (fun d => absurd c d) (fun _ d => absurd d c2) (fun _ _ _ => ⟨_, rfl, hh.hs, hK _ h hi frm_refl⟩) (fun _ _ d => absurd d c3))
  · have b5 := hh.iv 55 t.toInt.toNat (r := (0, 60)) rfl
    simp only at b5
    have hn : t.toInt.toNat < 6 := by have := c.1; have := c.2; omega
    have hk : i.toInt.toNat < 60 := by have := c3.1; have := c3.2; omega
    rw [eS c] at c2 ⊢
    rw [eL c] at c3
    obtain ⟨tn, etn⟩ : ∃ tn, t.toInt.toNat = tn := ⟨_, rfl⟩
    obtain ⟨kn, ekn⟩ : ∃ kn, i.toInt.toNat = kn := ⟨_, rfl⟩
    rw [etn] at hn c2 c3 ⊢
    rw [ekn] at hk ⊢
    obtain ⟨x, ex⟩ : ∃ x, sA (h.2.1 123 tn) v = x := ⟨_, rfl⟩
    rw [ex]
    have g1 : HI (hpL h (57 + tn) kn x) := HI_putL hh
    have g2 : HI (hpL (hpL h (57 + tn) kn x) 125 (60 * tn + kn) x) := HI_putL g1
    have f : frm WIT h (hpL (hpL h (57 + tn) kn x) 125 (60 * tn + kn) x) := frm_putL (frm_putL frm_refl (WIT_row hn)) WIT_5
    refine hQ _ _ g1 (mitm_ok t i v g1 (fun d => absurd c d) (fun _ d => absurd d (by rw [etn]; exact c2)) (fun _ _ d => absurd (by rw [etn]; exact c3) d) (fun _ _ _ => ⟨_, rfl, g1.hs, hK _ _ ?_ ?_⟩))
    rotate_left
    · rw [etn, ekn, show sA ((hpL h (57 + tn) kn x).2.1 123 tn) v = x from ex]
      exact f
    rw [etn, ekn, show sA ((hpL h (57 + tn) kn x).2.1 123 tn) v = x from ex]
    refine ⟨INV_fr (W := WIT) (by decide) g2 f hi.1, EK_f (W := WIT) (by decide) f p1, ER_f (W := WIT) (by decide) f p2, EB_f (W := WIT) (by decide) f p3, ES_f (W := WIT) (by decide) f p4, EA_f (W := WIT) (by decide) f p5, t1, t2, fun u k hu hk2 => ?_, t4, fun u k hu hk2 hc => ?_⟩
    · rw [putL_ne (a := 125) (by omega)]
      by_cases d : u = tn ∧ k = kn
      · rw [d.1, d.2, putL_at, putL_at]
      · rw [putL_ne (by omega), putL_ne (by omega), putL_ne (by omega)]
        exact t3 u k hu hk2
    · have hc : (h.2.1 54 u).toInt = 4 := hc
      rw [putL_ne (a := 125) (by omega)]
      by_cases d : u = tn ∧ k = kn
      · rw [d.1, d.2, putL_at, ← ex]
        rw [d.1, t1 tn hn] at hc
        have s4 : h.2.1 123 tn = 4 := Int32.toInt.inj hc
        unfold sA
        rw [s4, if_neg (by decide), if_neg (by decide), if_neg (by decide), if_pos rfl]
        by_cases z : v = 0
        · rw [if_pos z]
          exact Or.inl rfl
        · rw [if_neg z]
          exact Or.inr rfl
      · rw [putL_ne (by omega)]
        exact t5 u k hu hk2 hc
/-! reading -/
theorem crd_ok (t i : Int32) (hh : HI h) (rx : RX h) (q1 : ¬ (tpOK t ∧ iOK i (h.2.1 55 t.toInt.toNat)) → Q (some (.long (-9223372036854775808))) h) (q2 : tpOK t → iOK i (h.2.1 55 t.toInt.toNat) → Q (some (.long (h.2.2.1 (57 + t.toInt.toNat) i.toInt.toNat))) h) : Ends X (dp + 1 + 1) 97 0 [.ref 0, .int t, .int i] [] h Q := by
  have hs := hh.hs
  have b5 := hh.iv 55 t.toInt.toNat (r := (0, 60)) rfl
  simp only at b5
  refine w_crd t i hs (cex_ok t hs ⟨_, rfl, hs, fun e => q1 (fun d => absurd d.1 (bnand (cz e))), fun e => ?_⟩)
  have e : tpOK t := band (cn e)
  have it : inB t 6 = true := inB_iff e.1 (by have := e.2; omega)
  have hn : t.toInt.toNat < 6 := by have := e.1; have := e.2; omega
  refine chpl_ok t i e hh ⟨_, rfl, hs, fun e3 => q1 (fun d => absurd d.2 (bnand (cz e3))), fun e3 => ?_⟩
  have e3 : iOK i (h.2.1 55 t.toInt.toNat) := band (cn e3)
  exact ⟨57 + t.toInt.toNat, it, rx.1 _ hn, by omega, row_A hn, inB_iff e3.1 (by have := e3.2; omega), q2 e e3⟩
theorem mrd_ok (t i : Int32) (hh : HI h) (q1 : ¬ (tpOK t ∧ 0 ≤ (h.2.1 123 t.toInt.toNat).toInt ∧ iOK i (h.2.1 124 t.toInt.toNat)) → Q (some (.long (-9223372036854775808))) h) (q2 : tpOK t → iOK i (h.2.1 124 t.toInt.toNat) → Q (some (.long (h.2.2.1 125 (60 * t.toInt.toNat + i.toInt.toNat)))) h) : Ends X (dp + 1 + 1) 202 0 [.ref 93, .int t, .int i] [] h Q := by
  have hs := hh.hs
  have b5 := hh.iv 124 t.toInt.toNat (r := (0, 60)) rfl
  have j0 : (0 : Int32).toInt = 0 := rfl
  simp only at b5
  have el : (h.2.1 124 t.toNatClampNeg - 1).toInt = (h.2.1 124 t.toInt.toNat).toInt - 1 := by
    show (h.2.1 124 t.toInt.toNat - 1).toInt = _
    rw [i_sub (by rw [i1]; omega) (by rw [i1]; omega), i1]
  refine w_mrd t i hs (tape_ok t hs ⟨_, rfl, hs, fun e => q1 (fun d => absurd d.1 (bnand (cz e))), fun e => ?_⟩)
  have e : tpOK t := band (cn e)
  have it : inB t 6 = true := inB_iff e.1 (by have := e.2; omega)
  refine ⟨it, fun e2 => q1 (fun d => ?_), fun e2 => ⟨it, in_ok _ _ _ hs ⟨_, rfl, hs, fun e3 => ?_, fun e3 => q1 (fun d => ?_)⟩⟩⟩
  · have e2 : (h.2.1 123 t.toInt.toNat).toInt < 0 := of_decide_eq_true (cI e2)
    have := d.2.1
    omega
  · have e3 := band (cn2 e3)
    rw [el, j0] at e3
    have e4 : iOK i (h.2.1 124 t.toInt.toNat) := ⟨e3.1, by omega⟩
    have ei := idx60 (t := t) (k := i) (tn := t.toInt.toNat) (kn := i.toInt.toNat) (by have := e.1; omega) (by omega) (by have := e.2; omega) (by omega)
    have en : ((60 * t) + i).toNatClampNeg = 60 * t.toInt.toNat + i.toInt.toNat := by show ((60 * t) + i).toInt.toNat = _; rw [ei]; rfl
    refine ⟨inB_iff (by rw [ei]; omega) (by rw [ei]; have := e.2; omega), ?_⟩
    rw [en]
    exact q2 e e4
  · have e3 := bnand (cz2 e3)
    rw [el, j0] at e3
    exact e3 ⟨d.2.2.1, by have := d.2.2.2; omega⟩
def REFL (X : Scr) (dp y : Nat) (L : List Value) (K : Hp → Int64 → Int64 → Prop) (r : Int64) (h1 : Hp) : Prop := Ends X dp y 0 L [] h1 (fun w h2 => ∃ r2, w = some (.long r2) ∧ HS h2 ∧ K h2 r r2)
theorem read_pair (t i : Int32) (hi : INVE h) {K : Hp → Int64 → Int64 → Prop} (hK : ∀ r h', INVE h' → frm [] h h' → K h' r r) (hQ : ∀ r h1, HI h1 → REFL X (dp + 1 + 1) 202 [.ref 93, .int t, .int i] K r h1 → Q (some (.long r)) h1) : Ends X (dp + 1 + 1) 97 0 [.ref 0, .int t, .int i] [] h Q := by
  have hh := hi.1.1
  obtain ⟨p1, p2, p3, p4, p5, t1, t2, t3, t4, -⟩ := id hi.2
  have eS : tpOK t → h.2.1 54 t.toInt.toNat = h.2.1 123 t.toInt.toNat := fun c => t1 _ (by have := c.1; have := c.2; omega)
  have eL : tpOK t → h.2.1 55 t.toInt.toNat = h.2.1 124 t.toInt.toNat := fun c => t2 _ (by have := c.1; have := c.2; omega)
  refine crd_ok t i hh hi.1.2.2.2.2.2.1 (fun c => ?_) (fun c c2 => ?_)
  · exact hQ _ h hh (mrd_ok t i hh (fun _ => ⟨_, rfl, hh.hs, hK _ h hi frm_refl⟩) (fun d d2 => absurd ⟨d, by rw [eL d]; exact d2⟩ c))
  · have hn : t.toInt.toNat < 6 := by have := c.1; have := c.2; omega
    have b := hh.iv 54 t.toInt.toNat (r := (-1, 4)) rfl
    have b5 := hh.iv 55 t.toInt.toNat (r := (0, 60)) rfl
    simp only at b b5
    have c3 : 0 ≤ (h.2.1 123 t.toInt.toNat).toInt := by
      rw [← eS c]
      by_cases d : (h.2.1 54 t.toInt.toNat).toInt = -1
      · exfalso
        have q := t4 _ hn d
        have c5 := c2.2
        have c6 := c2.1
        rw [q] at c5
        have z : (0 : Int32).toInt = 0 := rfl
        omega
      · omega
    have hk : i.toInt.toNat < 60 := by have := c2.1; have := c2.2; omega
    rw [t3 _ _ hn hk]
    rw [eL c] at c2
    exact hQ _ h hh (mrd_ok t i hh (fun d => absurd ⟨c, c3, c2⟩ d) (fun _ _ => ⟨_, rfl, hh.hs, hK _ h hi frm_refl⟩))
/-! shift -/
theorem shAns_eq {S L S' L' : Nat → Int32} {t i o j n : Int32} (hS : ∀ k, k < 6 → S k = S' k) (hL : ∀ k, k < 6 → L k = L' k) : shAns S L t i o j n = shAns S' L' t i o j n := by
  unfold shAns
  by_cases c : 0 ≤ t.toInt ∧ t.toInt ≤ 5
  · by_cases d : 0 ≤ o.toInt ∧ o.toInt ≤ 5
    · rw [hS t.toInt.toNat (by omega), hS o.toInt.toNat (by omega), hL t.toInt.toNat (by omega), hL o.toInt.toNat (by omega)]
    · rw [if_neg (Decidable.not_not.mpr c), if_neg (Decidable.not_not.mpr c), if_pos d, if_pos d]
  · rw [if_pos c, if_pos c]
theorem shAns_ok {S L : Nat → Int32} {t i o j n : Int32} (h : (shAns S L t i o j n).2 = true) : (0 ≤ t.toInt ∧ t.toInt ≤ 5) ∧ (0 ≤ o.toInt ∧ o.toInt ≤ 5) ∧ (0 ≤ i.toInt ∧ 0 ≤ n.toInt ∧ i.toInt + n.toInt ≤ (L t.toInt.toNat).toInt) ∧ 0 ≤ j.toInt ∧ 0 ≤ n.toInt ∧ j.toInt + n.toInt ≤ (L o.toInt.toNat).toInt := by
  unfold shAns at h
  split at h
  · cases h
  · rename_i c1
    split at h
    · cases h
    · rename_i c2
      split at h
      · cases h
      · split at h
        · cases h
        · split at h
          · cases h
          · split at h
            · cases h
            · rename_i c3
              split at h
              · cases h
              · rename_i c4
                exact ⟨Decidable.not_not.mp c1, Decidable.not_not.mp c2, Decidable.not_not.mp c3, Decidable.not_not.mp c4⟩
theorem shAns_s {S L : Nat → Int32} {t i o j n : Int32} (h : (shAns S L t i o j n).2 = true) : S t.toInt.toNat = S o.toInt.toNat := by
  unfold shAns at h
  split at h
  · cases h
  · split at h
    · cases h
    · split at h
      · cases h
      · split at h
        · cases h
        · split at h
          · cases h
          · rename_i c
            exact Int32.toInt.inj (Decidable.not_not.mp c)
def WSF : List (Nat × Nat) := [(57, 999), (58, 999), (59, 999), (60, 999), (61, 999), (62, 999), (125, 999), (126, 999)]
theorem WSF_row {t k : Nat} (ht : t < 6) : inW WSF (57 + t) k = true := by
  match t, ht with
  | 0, _ => simp [inW, WSF]
  | 1, _ => simp [inW, WSF]
  | 2, _ => simp [inW, WSF]
  | 3, _ => simp [inW, WSF]
  | 4, _ => simp [inW, WSF]
  | 5, _ => simp [inW, WSF]
  | t + 6, h => omega
theorem shift_pair (t i o j n : Int32) (hi : INVE h) {K : Hp → Int32 → Int32 → Prop} (hK : ∀ r h', INVE h' → frm WSF h h' → K h' r r) (hQ : ∀ r h1, HI h1 → REF X (dp + 1 + 1) 203 [.ref 93, .int t, .int i, .int o, .int j, .int n, .retAddr 0] K r h1 → Q (some (.int r)) h1) : Ends X (dp + 1 + 1) 98 0 [.ref 0, .int t, .int i, .int o, .int j, .int n] [] h Q := by
  have hh := hi.1.1
  obtain ⟨p1, p2, p3, p4, p5, t1, t2, t3, t4, t5⟩ := id hi.2
  have ea : shAns (h.2.1 54) (h.2.1 55) t i o j n = shAns (h.2.1 123) (h.2.1 124) t i o j n := shAns_eq t1 t2
  refine csh_ok t i o j n hh hi.1.2.2.2.2.2.1 ?_
  by_cases c : (shAns (h.2.1 54) (h.2.1 55) t i o j n).2 = true
  · rw [if_pos c]
    have b5 := hh.iv 55 t.toInt.toNat (r := (0, 60)) rfl
    have b6 := hh.iv 55 o.toInt.toNat (r := (0, 60)) rfl
    simp only at b5 b6
    obtain ⟨d1, d2, d3, d4⟩ := shAns_ok c
    obtain ⟨tn, etn⟩ : ∃ tn, t.toInt.toNat = tn := ⟨_, rfl⟩
    obtain ⟨on, eon⟩ : ∃ on, o.toInt.toNat = on := ⟨_, rfl⟩
    obtain ⟨i', ei⟩ : ∃ i', i.toInt.toNat = i' := ⟨_, rfl⟩
    obtain ⟨j', ej⟩ : ∃ j', j.toInt.toNat = j' := ⟨_, rfl⟩
    obtain ⟨n', en⟩ : ∃ n', n.toInt.toNat = n' := ⟨_, rfl⟩
    have ht6 : tn < 6 := by omega
    have ho6 : on < 6 := by omega
    have hi6 : i' + n' ≤ 60 := by omega
    have hj6 : j' + n' ≤ 60 := by omega
    rw [etn, eon, ei, ej, en, ea]
    have c' : (shAns (h.2.1 123) (h.2.1 124) t i o j n).2 = true := by rw [← ea]; exact c
    have g1 : HI (hpC h (57 + on) (57 + tn) i' j' n') := hh
    have f1 : frm WSF h (hpC h (57 + on) (57 + tn) i' j' n') := by
      intro a k hk
      refine ⟨rfl, ?_, rfl⟩
      show (if a = 57 + on then _ else h.2.2.1 a) k = _
      rw [if_neg]
      intro q
      rw [q, WSF_row ho6] at hk
      cases hk
    refine hQ _ _ g1 (msh_ok t i o j n g1 (fun h2 y1 y2 _ y3 => ⟨_, rfl, y1.hs, hK _ h2 ?_ (frm_trans f1 (frm_mono (by decide) y2))⟩))
    have y3 := y3 c'
    rw [etn, eon, ei, ej, en] at y3
    have f : frm WSF h h2 := frm_trans f1 (frm_mono (by decide) y2)
    refine ⟨INV_fr (W := WSF) (by decide) y1 f hi.1, EK_f (W := WSF) (by decide) f p1, ER_f (W := WSF) (by decide) f p2, EB_f (W := WSF) (by decide) f p3, ES_f (W := WSF) (by decide) f p4, EA_f (W := WSF) (by decide) f p5, eqr_fr (fun j => frI f (by simp [inW, WSF])) (fun j => frI f (by simp [inW, WSF])) t1, eqr_fr (fun j => frI f (by simp [inW, WSF])) (fun j => frI f (by simp [inW, WSF])) t2, fun u k hu hk => ?_, fun u hu q => ?_, fun u k hu hk q => ?_⟩
    · have a1 : h2.2.2.1 (57 + u) k = (hpC h (57 + on) (57 + tn) i' j' n').2.2.1 (57 + u) k := (y2 (57 + u) k (by simp [inW, WSh]; omega)).2.1
      have n125 : ¬ 125 = 57 + on := by omega
      have e125 : (hpC h (57 + on) (57 + tn) i' j' n').2.2.1 125 = h.2.2.1 125 := by
        show (if 125 = 57 + on then _ else h.2.2.1 125) = _
        rw [if_neg n125]
      rw [a1, y3, e125]
      show (if 57 + u = 57 + on then va_cpy (h.2.2.1 (57 + tn)) (h.2.2.1 (57 + on)) i' j' n' else h.2.2.1 (57 + u)) k = va_cpy (h.2.2.1 125) (h.2.2.1 125) (60 * tn + i') (60 * on + j') n' (60 * u + k)
      unfold va_cpy
      by_cases d : u = on
      · rw [if_pos (by omega)]
        by_cases d5 : j' ≤ k ∧ k < j' + n'
        · have e7 : 60 * tn + i' + (60 * u + k - (60 * on + j')) = 60 * tn + (i' + (k - j')) := by omega
          rw [if_pos d5, if_pos (by omega), t3 tn (i' + (k - j')) ht6 (by omega), e7]
        · rw [if_neg d5, if_neg (by omega), ← d]
          exact t3 u k hu hk
      · rw [if_neg (by omega), if_neg (by omega)]
        exact t3 u k hu hk
    · rw [frI f (a := 54) (by simp [inW, WSF])] at q
      rw [frI f (a := 55) (by simp [inW, WSF])]
      exact t4 u hu q
    · rw [frI f (a := 54) (by simp [inW, WSF])] at q
      have a1 : h2.2.2.1 (57 + u) k = (hpC h (57 + on) (57 + tn) i' j' n').2.2.1 (57 + u) k := (y2 (57 + u) k (by simp [inW, WSh]; omega)).2.1
      have a2 : (hpC h (57 + on) (57 + tn) i' j' n').2.2.1 (57 + u) k = (if 57 + u = 57 + on then va_cpy (h.2.2.1 (57 + tn)) (h.2.2.1 (57 + on)) i' j' n' else h.2.2.1 (57 + u)) k := rfl
      rw [a1, a2]
      unfold va_cpy
      by_cases d : u = on
      · rw [if_pos (by omega)]
        by_cases d5 : j' ≤ k ∧ k < j' + n'
        · rw [if_pos d5]
          have es := shAns_s c
          rw [etn, eon] at es
          exact t5 tn _ ht6 (by omega) (by rw [es, ← d]; exact q)
        · rw [if_neg d5, ← d]
          exact t5 u k hu hk q
      · rw [if_neg (by omega)]
        exact t5 u k hu hk q
  · rw [if_neg c, ea]
    have c' : (shAns (h.2.1 123) (h.2.1 124) t i o j n).2 = false := by rw [← ea]; exact Bool.not_eq_true _ ▸ c
    exact hQ _ h hh (msh_ok t i o j n hh (fun h2 y1 y2 y3 _ => ⟨_, rfl, y1.hs, by rw [y3 c']; exact hK _ h hi frm_refl⟩))
end TAPES
end JN99t5tapes
section JN99t6pairs
/-! Acts, the trace, kinds taken, people, the image: the pairs of calls. -/
section PAIRS
variable {X : Scr} {dp : Nat} {h h0 : Hp} {Q : Option Value → Hp → Prop}
def aA (a k p v x : Int32) : Int32 := if a = 0 then aRA k p v x else if a = 1 then aHA k k p v x else aTA k k p v x
def aL (a k : Int32) : List Int32 := if a = 0 then lRL k else if a = 1 then lHL k k else lTL k k
theorem lTL_len {k : Int32} : (lTL k k).length ≤ 12 := by
  have q1 := lT1_len (k := k)
  have q2 := lHL_len (f := k) (k := k)
  unfold lTL
  split
  · rw [List.length_cons, List.length_append]; omega
  · split
    · rw [List.length_cons]; omega
    · split
      · rw [List.length_cons, List.length_append]; omega
      · omega
theorem aL_len {a k : Int32} : (aL a k).length ≤ 12 := by
  have q1 := lRL_len (k := k)
  have q2 := lHL_len (f := k) (k := k)
  have q3 := lTL_len (k := k)
  unfold aL
  split
  · omega
  · split <;> omega
theorem AP_i {a k b : Nat} {g : Hp} (hh : HI g) (hz : (g.2.1 a k).toInt = 0) : AP a k b g [] g := ⟨hh, frm_refl, by rw [hz]; rfl, fun j => by rw [if_neg (show ¬ j < ([] : List Int32).length from Nat.not_lt_zero j)]⟩
theorem acases {a : Int32} (h1 : 0 ≤ a.toInt) (h2 : a.toInt ≤ 2) : a = 0 ∨ a = 1 ∨ a = 2 := by
  have c0 : (0 : Int32).toInt = 0 := rfl
  have c1 : (1 : Int32).toInt = 1 := rfl
  have c2 : (2 : Int32).toInt = 2 := rfl
  rcases (show a.toInt = 0 ∨ a.toInt = 1 ∨ a.toInt = 2 by omega) with q | q | q
  · exact Or.inl (Int32.toInt_inj.mp (by rw [q, c0]))
  · exact Or.inr (Or.inl (Int32.toInt_inj.mp (by rw [q, c1])))
  · exact Or.inr (Or.inr (Int32.toInt_inj.mp (by rw [q, c2])))
def WCA : List (Nat × Nat) := [(51, 0), (51, 1), (51, 2), (51, 4), (52, 999)]
def pOK (p s : Int32) : Prop := 0 ≤ p.toInt ∧ p.toInt < s.toInt
def cOK (a : Int32) : Prop := 0 ≤ a.toInt ∧ a.toInt ≤ 2
theorem cact_ok (p a x : Int32) (hh : HI h) (q1 : ¬ (pOK p (h.2.1 1 0) ∧ cOK a) → Q (some (.int 0)) (hpI h 51 4 0))
    (q2 : pOK p (h.2.1 1 0) → cOK a → ∀ h', HI h' → frm WCA h h' → (h'.2.1 51 4).toInt = ((aL a (h.2.1 2 p.toInt.toNat)).length : Int) → (∀ j, h'.2.1 52 j = if j < (aL a (h.2.1 2 p.toInt.toNat)).length then (aL a (h.2.1 2 p.toInt.toNat)).getD j 0 else h.2.1 52 j) → Q (some (.int (aA a (h.2.1 2 p.toInt.toNat) p (h.2.1 3 p.toInt.toNat) x))) h') : Ends X 8 91 0 [.ref 0, .int p, .int a, .int x] [] h Q := by
  have b := hh.iv 1 0 (r := (0, 7)) rfl
  simp only at b
  have r4 := fIr 51 4 0 (by decide +kernel)
  have g0 : HI (hpI h 51 4 0) := HI_put hh r4.1 r4.2
  have e10 : (hpI h 51 4 0).2.1 1 0 = h.2.1 1 0 := put_ne (by omega)
  refine w_cact (dp := 7) p a x hh.hs (chas_ok p g0 ⟨_, rfl, g0.hs, fun e => q1 ?_, fun e => ⟨fun e2 => q1 ?_, fun e2 => ⟨fun e3 => ?_, fun e3 => q1 ?_⟩⟩⟩)
  · have e := bnand (cz e)
    rw [e10] at e
    exact fun d => e d.1
  · have e2 : a.toInt < 0 := of_decide_eq_true (cI e2)
    exact fun d => by have := d.2.1; omega
  · have e := band (cn e)
    rw [e10] at e
    have e2 : ¬ a.toInt < 0 := of_decide_eq_false (cI e2)
    have e3 : a.toInt ≤ 2 := of_decide_eq_true (cI e3)
    have ip : inB p 7 = true := inB_iff e.1 (by have := e.2; omega)
    refine ⟨ip, ip, ?_⟩
    have q3 := q2 e ⟨by omega, e3⟩
    clear q1 q2
    rw [show p.toNatClampNeg = p.toInt.toNat from rfl]
    have ek : (hpI h 51 4 0).2.1 2 p.toInt.toNat = h.2.1 2 p.toInt.toNat := put_ne (by omega)
    have ev : (hpI h 51 4 0).2.1 3 p.toInt.toNat = h.2.1 3 p.toInt.toNat := put_ne (by omega)
    rw [ek, ev]
    have bk := hh.iv 2 p.toInt.toNat (r := (0, 6)) rfl
    simp only at bk
    generalize h.2.1 2 p.toInt.toNat = k at bk q3 ⊢
    generalize h.2.1 3 p.toInt.toNat = v at q3 ⊢
    have i0 := fIr 51 0 p (by decide +kernel)
    have i1' := fIr 51 1 k (by decide +kernel)
    have i2 := fIr 51 2 v (by decide +kernel)
    have g1 : HI (hpI (hpI (hpI (hpI h 51 4 0) 51 0 p) 51 1 k) 51 2 v) := HI_put (HI_put (HI_put g0 i0.1 i0.2) i1'.1 i1'.2) i2.1 i2.2
    have f1 : frm WCA h (hpI (hpI (hpI (hpI h 51 4 0) 51 0 p) 51 1 k) 51 2 v) := frm_put (frm_put (frm_put (frm_put frm_refl rfl) rfl) rfl) rfl
    have hc : CK (hpI (hpI (hpI (hpI h 51 4 0) 51 0 p) 51 1 k) 51 2 v) k p v := ⟨by rw [put_ne (by omega), put_ne (by omega), put_at], by rw [put_ne (by omega), put_at], put_at⟩
    have hp : AP 51 4 52 (hpI (hpI (hpI (hpI h 51 4 0) 51 0 p) 51 1 k) 51 2 v) [] (hpI (hpI (hpI (hpI h 51 4 0) 51 0 p) 51 1 k) 51 2 v) := AP_i g1 (by rw [put_ne (by omega), put_ne (by omega), put_ne (by omega), put_at]; rfl)
    have e52 : ∀ j, (hpI (hpI (hpI (hpI h 51 4 0) 51 0 p) 51 1 k) 51 2 v).2.1 52 j = h.2.1 52 j := fun j => by rw [put_ne (by omega), put_ne (by omega), put_ne (by omega), put_ne (by omega)]
    generalize hpI (hpI (hpI (hpI h 51 4 0) 51 0 p) 51 1 k) 51 2 v = g at g1 f1 hc hp e52
    have fin : ∀ h', AP 51 4 52 g (aL a k) h' → ∃ r, some (Value.int (aA a k p v x)) = some (.int r) ∧ HS h' ∧ Q (some (.int r)) h' := fun h' z => ⟨_, rfl, z.1.hs, q3 h' z.1 (frm_trans f1 (frm_mono (by decide) z.2.1)) z.2.2.1 (fun j => by rw [z.2.2.2 j, e52 j])⟩
    rcases acases (by omega : 0 ≤ a.toInt) e3 with rfl | rfl | rfl
    · exact Ends.dpl (by decide) (DR k x 0 bk bk hc (by decide) (by decide) (by decide) hp fin)
    · exact Ends.dpl (by decide) (DH k x 0 bk bk hc (by decide) (by decide) (by decide) hp fin)
    · exact Ends.dpl (by decide) (DT k x 0 bk bk hc (by decide) (by decide) (by decide) hp fin)
  · have e3 : ¬ a.toInt ≤ 2 := of_decide_eq_false (cI e3)
    exact fun d => by have := d.2.2; omega
def WMA : List (Nat × Nat) := [(93, 58), (122, 999)]
theorem mact_ok (p a x : Int32) (hh : HI h) (q1 : ¬ (pOK p (h.2.1 93 0) ∧ cOK a) → Q (some (.int 0)) (hpI h 93 58 0))
    (q2 : pOK p (h.2.1 93 0) → cOK a → ∀ h', HI h' → frm WMA h h' → (h'.2.1 93 58).toInt = ((aL a (h.2.1 94 p.toInt.toNat)).length : Int) → (∀ j, h'.2.1 122 j = if j < (aL a (h.2.1 94 p.toInt.toNat)).length then (aL a (h.2.1 94 p.toInt.toNat)).getD j 0 else h.2.1 122 j) → Q (some (.int (aA a (h.2.1 94 p.toInt.toNat) p (h.2.1 95 p.toInt.toNat) x))) h') : Ends X 8 194 0 [.ref 93, .int p, .int a, .int x] [] h Q := by
  have b := hh.iv 93 0 (r := (0, 7)) rfl
  have j0 : (0 : Int32).toInt = 0 := rfl
  have j2 : (2 : Int32).toInt = 2 := rfl
  simp only at b
  have g0 : HI (hpI h 93 58 0) := HI_put hh (by show (0 : Int) ≤ 0; decide) (by show (0 : Int) ≤ 100; decide)
  have e10 : (hpI h 93 58 0).2.1 93 0 = h.2.1 93 0 := put_ne (by omega)
  refine w_mact (dp := 7) p a x hh.hs (person_ok p g0 ⟨_, rfl, g0.hs, fun e => q1 ?_, fun e => in_ok _ _ _ g0.hs ⟨_, rfl, g0.hs, fun e3 => ?_, fun e3 => q1 ?_⟩⟩)
  · have e := bnand (cz e)
    rw [e10] at e
    exact fun d => e d.1
  · have e := band (cn e)
    rw [e10] at e
    have e3 := band (cn2 e3)
    rw [j0, j2] at e3
    have q3 := q2 e e3
    have hp7 : 0 ≤ p.toInt ∧ p.toInt < 7 := ⟨e.1, by have := e.2; omega⟩
    clear q1 q2
    have ek : (hpI h 93 58 0).2.1 94 p.toNatClampNeg = h.2.1 94 p.toInt.toNat := put_ne (by omega)
    have ev : (hpI h 93 58 0).2.1 95 p.toNatClampNeg = h.2.1 95 p.toInt.toNat := put_ne (by omega)
    have bk := hh.iv 94 p.toInt.toNat (r := (0, 6)) rfl
    simp only at bk
    generalize h.2.1 94 p.toInt.toNat = k at bk q3 ek
    generalize h.2.1 95 p.toInt.toNat = v at q3 ev
    have f1 : frm WMA h (hpI h 93 58 0) := frm_put frm_refl rfl
    have hp : AP 93 58 122 (hpI h 93 58 0) [] (hpI h 93 58 0) := AP_i g0 (by rw [put_at]; rfl)
    have e52 : ∀ j, (hpI h 93 58 0).2.1 122 j = h.2.1 122 j := fun j => put_ne (by omega)
    generalize hpI h 93 58 0 = g at g0 f1 ek ev hp e52
    have fin : ∀ h', AP 93 58 122 g (aL a k) h' → ∃ r, some (Value.int (aA a k p v x)) = some (.int r) ∧ HS h' ∧ Q (some (.int r)) h' := fun h' z => ⟨_, rfl, z.1.hs, q3 h' z.1 (frm_trans f1 (frm_mono (by decide) z.2.1)) z.2.2.1 (fun j => by rw [z.2.2.2 j, e52 j])⟩
    rcases acases e3.1 e3.2 with rfl | rfl | rfl
    · exact ⟨fun e => absurd e (by decide), fun _ => Ends.dpl (by decide) (ra_ok p x hp7 bk ek ev (by decide) hp fin)⟩
    · exact ⟨fun _ => ⟨fun e => absurd e (by decide), fun _ => Ends.dpl (by decide) (ha_ok p x hp7 bk ek ev (by decide) hp fin)⟩, fun e => absurd e (by decide)⟩
    · exact ⟨fun _ => ⟨fun _ => Ends.dpl (by decide) (ta_ok p x hp7 bk ek ev (by decide) hp fin), fun e => absurd e (by decide)⟩, fun e => absurd e (by decide)⟩
  · have e3 := bnand (cz2 e3)
    rw [j0, j2] at e3
    exact fun d => e3 d.2
def WAC : List (Nat × Nat) := WCA ++ WMA
theorem act_pair (p a x : Int32) (hd : 8 ≤ dp) (hi : INVE h) {K : Hp → Int32 → Int32 → Prop} (hK : ∀ r h', INVE h' → frm WAC h h' → K h' r r) (hQ : ∀ r h1, HI h1 → REF X dp 194 [.ref 93, .int p, .int a, .int x] K r h1 → Q (some (.int r)) h1) : Ends X dp 91 0 [.ref 0, .int p, .int a, .int x] [] h Q := by
  have hh := hi.1.1
  have r1 : h.2.1 1 0 = h.2.1 93 0 := hi.1.2.2.2.2.2.2.1
  have b := hh.iv 1 0 (r := (0, 7)) rfl
  simp only at b
  obtain ⟨p1, p2, p3, p4, ⟨a1, a2⟩, p6⟩ := id hi.2
  refine Ends.dpl hd (cact_ok p a x hh (fun c => ?_) (fun c c2 h1 z1 z2 z3 z4 => ?_))
  · have r4 := fIr 51 4 0 (by decide +kernel)
    have g1 : HI (hpI h 51 4 0) := HI_put hh r4.1 r4.2
    have g2 : HI (hpI (hpI h 51 4 0) 93 58 0) := HI_put g1 (by show (0 : Int) ≤ 0; decide) (by show (0 : Int) ≤ 100; decide)
    have f : frm WAC h (hpI (hpI h 51 4 0) 93 58 0) := frm_put (frm_put frm_refl rfl) rfl
    have e0 : (hpI h 51 4 0).2.1 93 0 = h.2.1 1 0 := by rw [put_ne (by omega), r1]
    refine hQ _ _ g1 (Ends.dpl hd (mact_ok p a x g1 (fun _ => ⟨_, rfl, g1.hs, hK _ _ ⟨INV_fr (W := WAC) (by decide) g2 f hi.1, EK_f (W := WAC) (by decide) f p1, ER_f (W := WAC) (by decide) f p2, EB_f (W := WAC) (by decide) f p3, ES_f (W := WAC) (by decide) f p4, ⟨?_, ?_⟩, ET_f (W := WAC) (by decide) f p6⟩ f⟩) (fun d d2 => absurd ⟨by rw [e0] at d; exact d, d2⟩ c)))
    · exact eqr_fr (fun j => by rw [put_ne (by omega), put_ne (by omega)]) (fun j => by rw [put_ne (by omega), put_ne (by omega)]) a1
    · rw [put_ne (by omega), put_at, put_at]
  · have hn : p.toInt.toNat < 7 := by have := c.1; have := c.2; omega
    have e0 : h1.2.1 93 0 = h.2.1 1 0 := by rw [frI z2 rfl, r1]
    have ek : h1.2.1 94 p.toInt.toNat = h.2.1 2 p.toInt.toNat := by rw [frI z2 (by simp [inW, WCA])]; exact (p1.1 _ hn).symm
    have ev : h1.2.1 95 p.toInt.toNat = h.2.1 3 p.toInt.toNat := by rw [frI z2 (by simp [inW, WCA])]; exact (p1.2.1 _ hn).symm
    refine hQ _ h1 z1 (Ends.dpl hd (mact_ok p a x z1 (fun d => absurd ⟨by rw [e0]; exact c, c2⟩ d) (fun _ _ h2 y1 y2 y3 y4 => ⟨_, rfl, y1.hs, ?_⟩)))
    rw [ek] at y3 y4 ⊢
    rw [ev]
    have f : frm WAC h h2 := frm_trans (frm_mono (by decide) z2) (frm_mono (by decide) y2)
    refine hK _ h2 ⟨INV_fr (W := WAC) (by decide) y1 f hi.1, EK_f (W := WAC) (by decide) f p1, ER_f (W := WAC) (by decide) f p2, EB_f (W := WAC) (by decide) f p3, ES_f (W := WAC) (by decide) f p4, ⟨fun j hj => ?_, ?_⟩, ET_f (W := WAC) (by decide) f p6⟩ f
    · rw [frI y2 (a := 52) (by simp [inW, WMA]), z4 j, y4 j, frI z2 (a := 122) (by simp [inW, WCA])]
      split
      · rfl
      · exact a1 j hj
    · rw [frI y2 (a := 51) rfl]
      exact Int32.toInt_inj.mp (by rw [z3, y3])
/-! the trace -/
theorem ctrc_ok (i : Int32) (hh : HI h) (q1 : ¬ (0 ≤ i.toInt ∧ i.toInt < 20 ∧ i.toInt < (h.2.1 51 4).toInt) → Q (some (.int (-1))) h) (q2 : (0 ≤ i.toInt ∧ i.toInt < 20 ∧ i.toInt < (h.2.1 51 4).toInt) → Q (some (.int (h.2.1 52 i.toInt.toNat))) h) : Ends X dp 92 0 [.ref 0, .int i] [] h Q := by
  have j20 : (20 : Int32).toInt = 20 := rfl
  refine w_ctrc i hh.hs ⟨fun e => q1 ?_, fun e => ⟨fun e2 => q1 ?_, fun e2 => ⟨fun e3 => q1 ?_, fun e3 => ?_⟩⟩⟩
  · have e : i.toInt < 0 := of_decide_eq_true (cI e)
    omega
  · have e2 : 20 ≤ i.toInt := of_decide_eq_true (cI e2)
    omega
  · have e3 : (h.2.1 51 4).toInt ≤ i.toInt := of_decide_eq_true (cI e3)
    omega
  · have e : ¬ i.toInt < 0 := of_decide_eq_false (cI e)
    have e2 : ¬ 20 ≤ i.toInt := of_decide_eq_false (cI e2)
    have e3 : ¬ (h.2.1 51 4).toInt ≤ i.toInt := of_decide_eq_false (cI e3)
    exact ⟨inB_iff (by omega) (by omega), q2 (by omega)⟩
theorem mtrc_ok (i : Int32) (hh : HI h) (q1 : ¬ (0 ≤ i.toInt ∧ i.toInt < 20 ∧ i.toInt < (h.2.1 93 58).toInt) → Q (some (.int (-1))) h) (q2 : (0 ≤ i.toInt ∧ i.toInt < 20 ∧ i.toInt < (h.2.1 93 58).toInt) → Q (some (.int (h.2.1 122 i.toInt.toNat))) h) : Ends X (dp + 1) 195 0 [.ref 93, .int i] [] h Q := by
  have j0 : (0 : Int32).toInt = 0 := rfl
  have j19 : (19 : Int32).toInt = 19 := rfl
  refine w_mtrc i hh.hs (in_ok _ _ _ hh.hs ⟨_, rfl, hh.hs, fun e => q1 ?_, fun e => ⟨fun e3 => q1 ?_, fun e3 => ?_⟩⟩)
  · have e := bnand (cz e)
    rw [j0, j19] at e
    omega
  · have e3 : (h.2.1 93 58).toInt ≤ i.toInt := of_decide_eq_true (cI e3)
    omega
  · have e := band (cn e)
    rw [j0, j19] at e
    have e3 : ¬ (h.2.1 93 58).toInt ≤ i.toInt := of_decide_eq_false (cI e3)
    exact ⟨inB_iff (by omega) (by omega), q2 (by omega)⟩
theorem trace_pair (i : Int32) (hi : INVE h) {K : Hp → Int32 → Int32 → Prop} (hK : ∀ r h', INVE h' → frm [] h h' → K h' r r) (hQ : ∀ r h1, HI h1 → REF X (dp + 1) 195 [.ref 93, .int i] K r h1 → Q (some (.int r)) h1) : Ends X (dp + 1) 92 0 [.ref 0, .int i] [] h Q := by
  have hh := hi.1.1
  obtain ⟨p1, p2, p3, p4, ⟨a1, a2⟩, p6⟩ := id hi.2
  refine ctrc_ok i hh (fun c => ?_) (fun c => ?_)
  · rw [a2] at c
    exact hQ _ h hh (mtrc_ok i hh (fun _ => ⟨_, rfl, hh.hs, hK _ h hi frm_refl⟩) (fun d => absurd d c))
  · rw [a1 i.toInt.toNat (by omega)]
    rw [a2] at c
    exact hQ _ h hh (mtrc_ok i hh (fun d => absurd c d) (fun _ => ⟨_, rfl, hh.hs, hK _ h hi frm_refl⟩))
/-! kinds taken -/
def chn (c : Int32) : List Int32 := if c = 0 then [0] else if c = 4 then [4, 1, 0] else if c = 5 then [5, 2, 0] else if c = 6 then [6, 3, 0] else [c, 0]
def tkA (c k : Int32) : Int32 := if (chn c).contains k then c else -12
theorem ctk_ok (p c k : Int32) (hs : HS h) (hc : 0 ≤ c.toInt ∧ c.toInt ≤ 6) (hk : 0 ≤ k.toInt ∧ k.toInt ≤ 6) (hQ : Q (some (.int (tkA c k))) h) : Ends X dp 93 43 [.ref 0, .int p, .int k, .int c, .int c, .int 0] [] h Q := by
  rcases kcases hc.1 hc.2 with rfl | rfl | rfl | rfl | rfl | rfl | rfl
  · rcases kcases hk.1 hk.2 with rfl | rfl | rfl | rfl | rfl | rfl | rfl
    · rw [show tkA 0 0 = 0 from by decide] at hQ; exact w_ctk0 p 0 hs ⟨fun e => absurd e (by decide), fun _ => hQ⟩
    · rw [show tkA 0 1 = -12 from by decide] at hQ; exact w_ctk0 p 1 hs ⟨fun _ => hQ, fun e => absurd e (by decide)⟩
    · rw [show tkA 0 2 = -12 from by decide] at hQ; exact w_ctk0 p 2 hs ⟨fun _ => hQ, fun e => absurd e (by decide)⟩
    · rw [show tkA 0 3 = -12 from by decide] at hQ; exact w_ctk0 p 3 hs ⟨fun _ => hQ, fun e => absurd e (by decide)⟩
    · rw [show tkA 0 4 = -12 from by decide] at hQ; exact w_ctk0 p 4 hs ⟨fun _ => hQ, fun e => absurd e (by decide)⟩
    · rw [show tkA 0 5 = -12 from by decide] at hQ; exact w_ctk0 p 5 hs ⟨fun _ => hQ, fun e => absurd e (by decide)⟩
    · rw [show tkA 0 6 = -12 from by decide] at hQ; exact w_ctk0 p 6 hs ⟨fun _ => hQ, fun e => absurd e (by decide)⟩
  · rcases kcases hk.1 hk.2 with rfl | rfl | rfl | rfl | rfl | rfl | rfl
    · rw [show tkA 1 0 = 1 from by decide] at hQ; exact w_ctk1 p 0 hs ⟨fun _ => ⟨fun e => absurd e (by decide), fun _ => hQ⟩, fun e => absurd e (by decide)⟩
    · rw [show tkA 1 1 = 1 from by decide] at hQ; exact w_ctk1 p 1 hs ⟨fun e => absurd e (by decide), fun _ => hQ⟩
    · rw [show tkA 1 2 = -12 from by decide] at hQ; exact w_ctk1 p 2 hs ⟨fun _ => ⟨fun _ => hQ, fun e => absurd e (by decide)⟩, fun e => absurd e (by decide)⟩
    · rw [show tkA 1 3 = -12 from by decide] at hQ; exact w_ctk1 p 3 hs ⟨fun _ => ⟨fun _ => hQ, fun e => absurd e (by decide)⟩, fun e => absurd e (by decide)⟩
    · rw [show tkA 1 4 = -12 from by decide] at hQ; exact w_ctk1 p 4 hs ⟨fun _ => ⟨fun _ => hQ, fun e => absurd e (by decide)⟩, fun e => absurd e (by decide)⟩
    · rw [show tkA 1 5 = -12 from by decide] at hQ; exact w_ctk1 p 5 hs ⟨fun _ => ⟨fun _ => hQ, fun e => absurd e (by decide)⟩, fun e => absurd e (by decide)⟩
    · rw [show tkA 1 6 = -12 from by decide] at hQ; exact w_ctk1 p 6 hs ⟨fun _ => ⟨fun _ => hQ, fun e => absurd e (by decide)⟩, fun e => absurd e (by decide)⟩
  · rcases kcases hk.1 hk.2 with rfl | rfl | rfl | rfl | rfl | rfl | rfl
    · rw [show tkA 2 0 = 2 from by decide] at hQ; exact w_ctk2 p 0 hs ⟨fun _ => ⟨fun e => absurd e (by decide), fun _ => hQ⟩, fun e => absurd e (by decide)⟩
    · rw [show tkA 2 1 = -12 from by decide] at hQ; exact w_ctk2 p 1 hs ⟨fun _ => ⟨fun _ => hQ, fun e => absurd e (by decide)⟩, fun e => absurd e (by decide)⟩
    · rw [show tkA 2 2 = 2 from by decide] at hQ; exact w_ctk2 p 2 hs ⟨fun e => absurd e (by decide), fun _ => hQ⟩
    · rw [show tkA 2 3 = -12 from by decide] at hQ; exact w_ctk2 p 3 hs ⟨fun _ => ⟨fun _ => hQ, fun e => absurd e (by decide)⟩, fun e => absurd e (by decide)⟩
    · rw [show tkA 2 4 = -12 from by decide] at hQ; exact w_ctk2 p 4 hs ⟨fun _ => ⟨fun _ => hQ, fun e => absurd e (by decide)⟩, fun e => absurd e (by decide)⟩
    · rw [show tkA 2 5 = -12 from by decide] at hQ; exact w_ctk2 p 5 hs ⟨fun _ => ⟨fun _ => hQ, fun e => absurd e (by decide)⟩, fun e => absurd e (by decide)⟩
    · rw [show tkA 2 6 = -12 from by decide] at hQ; exact w_ctk2 p 6 hs ⟨fun _ => ⟨fun _ => hQ, fun e => absurd e (by decide)⟩, fun e => absurd e (by decide)⟩
  · rcases kcases hk.1 hk.2 with rfl | rfl | rfl | rfl | rfl | rfl | rfl
    · rw [show tkA 3 0 = 3 from by decide] at hQ; exact w_ctk3 p 0 hs ⟨fun _ => ⟨fun e => absurd e (by decide), fun _ => hQ⟩, fun e => absurd e (by decide)⟩
    · rw [show tkA 3 1 = -12 from by decide] at hQ; exact w_ctk3 p 1 hs ⟨fun _ => ⟨fun _ => hQ, fun e => absurd e (by decide)⟩, fun e => absurd e (by decide)⟩
    · rw [show tkA 3 2 = -12 from by decide] at hQ; exact w_ctk3 p 2 hs ⟨fun _ => ⟨fun _ => hQ, fun e => absurd e (by decide)⟩, fun e => absurd e (by decide)⟩
    · rw [show tkA 3 3 = 3 from by decide] at hQ; exact w_ctk3 p 3 hs ⟨fun e => absurd e (by decide), fun _ => hQ⟩
    · rw [show tkA 3 4 = -12 from by decide] at hQ; exact w_ctk3 p 4 hs ⟨fun _ => ⟨fun _ => hQ, fun e => absurd e (by decide)⟩, fun e => absurd e (by decide)⟩
    · rw [show tkA 3 5 = -12 from by decide] at hQ; exact w_ctk3 p 5 hs ⟨fun _ => ⟨fun _ => hQ, fun e => absurd e (by decide)⟩, fun e => absurd e (by decide)⟩
    · rw [show tkA 3 6 = -12 from by decide] at hQ; exact w_ctk3 p 6 hs ⟨fun _ => ⟨fun _ => hQ, fun e => absurd e (by decide)⟩, fun e => absurd e (by decide)⟩
  · rcases kcases hk.1 hk.2 with rfl | rfl | rfl | rfl | rfl | rfl | rfl
    · rw [show tkA 4 0 = 4 from by decide] at hQ; exact w_ctk4 p 0 hs ⟨fun _ => ⟨fun _ => ⟨fun e => absurd e (by decide), fun _ => hQ⟩, fun e => absurd e (by decide)⟩, fun e => absurd e (by decide)⟩
    · rw [show tkA 4 1 = 4 from by decide] at hQ; exact w_ctk4 p 1 hs ⟨fun _ => ⟨fun e => absurd e (by decide), fun _ => hQ⟩, fun e => absurd e (by decide)⟩
    · rw [show tkA 4 2 = -12 from by decide] at hQ; exact w_ctk4 p 2 hs ⟨fun _ => ⟨fun _ => ⟨fun _ => hQ, fun e => absurd e (by decide)⟩, fun e => absurd e (by decide)⟩, fun e => absurd e (by decide)⟩
    · rw [show tkA 4 3 = -12 from by decide] at hQ; exact w_ctk4 p 3 hs ⟨fun _ => ⟨fun _ => ⟨fun _ => hQ, fun e => absurd e (by decide)⟩, fun e => absurd e (by decide)⟩, fun e => absurd e (by decide)⟩
    · rw [show tkA 4 4 = 4 from by decide] at hQ; exact w_ctk4 p 4 hs ⟨fun e => absurd e (by decide), fun _ => hQ⟩
    · rw [show tkA 4 5 = -12 from by decide] at hQ; exact w_ctk4 p 5 hs ⟨fun _ => ⟨fun _ => ⟨fun _ => hQ, fun e => absurd e (by decide)⟩, fun e => absurd e (by decide)⟩, fun e => absurd e (by decide)⟩
    · rw [show tkA 4 6 = -12 from by decide] at hQ; exact w_ctk4 p 6 hs ⟨fun _ => ⟨fun _ => ⟨fun _ => hQ, fun e => absurd e (by decide)⟩, fun e => absurd e (by decide)⟩, fun e => absurd e (by decide)⟩
  · rcases kcases hk.1 hk.2 with rfl | rfl | rfl | rfl | rfl | rfl | rfl
    · rw [show tkA 5 0 = 5 from by decide] at hQ; exact w_ctk5 p 0 hs ⟨fun _ => ⟨fun _ => ⟨fun e => absurd e (by decide), fun _ => hQ⟩, fun e => absurd e (by decide)⟩, fun e => absurd e (by decide)⟩
    · rw [show tkA 5 1 = -12 from by decide] at hQ; exact w_ctk5 p 1 hs ⟨fun _ => ⟨fun _ => ⟨fun _ => hQ, fun e => absurd e (by decide)⟩, fun e => absurd e (by decide)⟩, fun e => absurd e (by decide)⟩
    · rw [show tkA 5 2 = 5 from by decide] at hQ; exact w_ctk5 p 2 hs ⟨fun _ => ⟨fun e => absurd e (by decide), fun _ => hQ⟩, fun e => absurd e (by decide)⟩
    · rw [show tkA 5 3 = -12 from by decide] at hQ; exact w_ctk5 p 3 hs ⟨fun _ => ⟨fun _ => ⟨fun _ => hQ, fun e => absurd e (by decide)⟩, fun e => absurd e (by decide)⟩, fun e => absurd e (by decide)⟩
    · rw [show tkA 5 4 = -12 from by decide] at hQ; exact w_ctk5 p 4 hs ⟨fun _ => ⟨fun _ => ⟨fun _ => hQ, fun e => absurd e (by decide)⟩, fun e => absurd e (by decide)⟩, fun e => absurd e (by decide)⟩
    · rw [show tkA 5 5 = 5 from by decide] at hQ; exact w_ctk5 p 5 hs ⟨fun e => absurd e (by decide), fun _ => hQ⟩
    · rw [show tkA 5 6 = -12 from by decide] at hQ; exact w_ctk5 p 6 hs ⟨fun _ => ⟨fun _ => ⟨fun _ => hQ, fun e => absurd e (by decide)⟩, fun e => absurd e (by decide)⟩, fun e => absurd e (by decide)⟩
  · rcases kcases hk.1 hk.2 with rfl | rfl | rfl | rfl | rfl | rfl | rfl
    · rw [show tkA 6 0 = 6 from by decide] at hQ; exact w_ctk6 p 0 hs ⟨fun _ => ⟨fun _ => ⟨fun e => absurd e (by decide), fun _ => hQ⟩, fun e => absurd e (by decide)⟩, fun e => absurd e (by decide)⟩
    · rw [show tkA 6 1 = -12 from by decide] at hQ; exact w_ctk6 p 1 hs ⟨fun _ => ⟨fun _ => ⟨fun _ => hQ, fun e => absurd e (by decide)⟩, fun e => absurd e (by decide)⟩, fun e => absurd e (by decide)⟩
    · rw [show tkA 6 2 = -12 from by decide] at hQ; exact w_ctk6 p 2 hs ⟨fun _ => ⟨fun _ => ⟨fun _ => hQ, fun e => absurd e (by decide)⟩, fun e => absurd e (by decide)⟩, fun e => absurd e (by decide)⟩
    · rw [show tkA 6 3 = 6 from by decide] at hQ; exact w_ctk6 p 3 hs ⟨fun _ => ⟨fun e => absurd e (by decide), fun _ => hQ⟩, fun e => absurd e (by decide)⟩
    · rw [show tkA 6 4 = -12 from by decide] at hQ; exact w_ctk6 p 4 hs ⟨fun _ => ⟨fun _ => ⟨fun _ => hQ, fun e => absurd e (by decide)⟩, fun e => absurd e (by decide)⟩, fun e => absurd e (by decide)⟩
    · rw [show tkA 6 5 = -12 from by decide] at hQ; exact w_ctk6 p 5 hs ⟨fun _ => ⟨fun _ => ⟨fun _ => hQ, fun e => absurd e (by decide)⟩, fun e => absurd e (by decide)⟩, fun e => absurd e (by decide)⟩
    · rw [show tkA 6 6 = 6 from by decide] at hQ; exact w_ctk6 p 6 hs ⟨fun e => absurd e (by decide), fun _ => hQ⟩
theorem ctak_ok (p k : Int32) (hh : HI h) (q1 : ¬ (0 ≤ k.toInt ∧ k.toInt ≤ 6) → Q (some (.int (-2))) h) (q2 : (0 ≤ k.toInt ∧ k.toInt ≤ 6) → ¬ pOK p (h.2.1 1 0) → Q (some (.int (-11))) h) (q3 : (0 ≤ k.toInt ∧ k.toInt ≤ 6) → pOK p (h.2.1 1 0) → Q (some (.int (tkA (h.2.1 2 p.toInt.toNat) k))) h) : Ends X (dp + 1) 93 0 [.ref 0, .int p, .int k, .retAddr 0, .retAddr 0, .retAddr 0] [] h Q := by
  have hs := hh.hs
  have j7 : (7 : Int32).toInt = 7 := rfl
  have b := hh.iv 1 0 (r := (0, 7)) rfl
  simp only at b
  refine w_ctak p k hs ⟨fun e => q1 ?_, fun e => ⟨fun e2 => chas_ok p hh ⟨_, rfl, hs, fun e3 => ?_, fun e3 => ?_⟩, fun e2 => q1 ?_⟩⟩
  · have e : k.toInt < 0 := of_decide_eq_true (cI e)
    omega
  · have e : ¬ k.toInt < 0 := of_decide_eq_false (cI e)
    have e2 : k.toInt < 7 := of_decide_eq_true (cI e2)
    have e3 : pOK p (h.2.1 1 0) := band (cn2 e3)
    have bk := hh.iv 2 p.toInt.toNat (r := (0, 6)) rfl
    simp only at bk
    exact ⟨inB_iff e3.1 (by have := e3.2; omega), ctk_ok p _ k hs bk (by omega) (q3 (by omega) e3)⟩
  · have e : ¬ k.toInt < 0 := of_decide_eq_false (cI e)
    have e2 : k.toInt < 7 := of_decide_eq_true (cI e2)
    exact q2 (by omega) (bnand (cz2 e3))
  · have e2 : ¬ k.toInt < 7 := of_decide_eq_false (cI e2)
    omega
theorem mtak_ok (p k : Int32) (hh : HI h) (q1 : ¬ (0 ≤ k.toInt ∧ k.toInt ≤ 6) → Q (some (.int (-2))) h) (q2 : (0 ≤ k.toInt ∧ k.toInt ≤ 6) → ¬ pOK p (h.2.1 93 0) → Q (some (.int (-11))) h) (q3 : (0 ≤ k.toInt ∧ k.toInt ≤ 6) → pOK p (h.2.1 93 0) → Q (some (.int (tkA (h.2.1 94 p.toInt.toNat) k))) h) : Ends X (dp + 1 + 1) 196 0 [.ref 93, .int p, .int k, .retAddr 0] [] h Q := by
  have hs := hh.hs
  have j0 : (0 : Int32).toInt = 0 := rfl
  have j6 : (6 : Int32).toInt = 6 := rfl
  have b := hh.iv 93 0 (r := (0, 7)) rfl
  simp only at b
  refine w_mtak p k hs (in_ok _ _ _ hs ⟨_, rfl, hs, fun e => person_ok p hh ⟨_, rfl, hs, fun e2 => ?_, fun e2 => ?_⟩, fun e => q1 ?_⟩)
  · have e := band (cn2 e)
    rw [j0, j6] at e
    have e2 : pOK p (h.2.1 93 0) := band (cn2 e2)
    have bk := hh.iv 94 p.toInt.toNat (r := (0, 6)) rfl
    simp only at bk
    refine ⟨inB_iff e2.1 (by have := e2.2; omega), ?_⟩
    have hQ := q3 e e2
    rw [show p.toNatClampNeg = p.toInt.toNat from rfl]
    clear q1 q2 q3
    generalize h.2.1 94 p.toInt.toNat = s at bk hQ ⊢
    rcases kcases bk.1 bk.2 with rfl | rfl | rfl | rfl | rfl | rfl | rfl
    · rcases kcases e.1 e.2 with rfl | rfl | rfl | rfl | rfl | rfl | rfl
      · rw [show tkA 0 0 = 0 from by decide] at hQ; exact ⟨fun _ => hQ, fun e => absurd e (by decide)⟩
      · rw [show tkA 0 1 = -12 from by decide] at hQ; exact ⟨fun e => absurd e (by decide), fun _ => ⟨fun e => absurd e (by decide), fun _ => ⟨fun e => absurd e (by decide), fun _ => ⟨fun e => absurd e (by decide), fun _ => ⟨fun _ => ⟨fun _ => hQ, fun e => absurd e (by decide)⟩, fun e => absurd e (by decide)⟩⟩⟩⟩⟩
      · rw [show tkA 0 2 = -12 from by decide] at hQ; exact ⟨fun e => absurd e (by decide), fun _ => ⟨fun e => absurd e (by decide), fun _ => ⟨fun _ => ⟨fun e => absurd e (by decide), fun _ => ⟨fun e => absurd e (by decide), fun _ => ⟨fun _ => hQ, fun e => absurd e (by decide)⟩⟩⟩, fun e => absurd e (by decide)⟩⟩⟩
      · rw [show tkA 0 3 = -12 from by decide] at hQ; exact ⟨fun e => absurd e (by decide), fun _ => ⟨fun e => absurd e (by decide), fun _ => ⟨fun _ => ⟨fun _ => ⟨fun e => absurd e (by decide), fun _ => ⟨fun _ => hQ, fun e => absurd e (by decide)⟩⟩, fun e => absurd e (by decide)⟩, fun e => absurd e (by decide)⟩⟩⟩
      · rw [show tkA 0 4 = -12 from by decide] at hQ; exact ⟨fun e => absurd e (by decide), fun _ => ⟨fun e => absurd e (by decide), fun _ => ⟨fun _ => ⟨fun _ => ⟨fun _ => hQ, fun e => absurd e (by decide)⟩, fun e => absurd e (by decide)⟩, fun e => absurd e (by decide)⟩⟩⟩
      · rw [show tkA 0 5 = -12 from by decide] at hQ; exact ⟨fun e => absurd e (by decide), fun _ => ⟨fun e => absurd e (by decide), fun _ => ⟨fun _ => ⟨fun _ => ⟨fun _ => hQ, fun e => absurd e (by decide)⟩, fun e => absurd e (by decide)⟩, fun e => absurd e (by decide)⟩⟩⟩
      · rw [show tkA 0 6 = -12 from by decide] at hQ; exact ⟨fun e => absurd e (by decide), fun _ => ⟨fun e => absurd e (by decide), fun _ => ⟨fun _ => ⟨fun _ => ⟨fun _ => hQ, fun e => absurd e (by decide)⟩, fun e => absurd e (by decide)⟩, fun e => absurd e (by decide)⟩⟩⟩
    · rcases kcases e.1 e.2 with rfl | rfl | rfl | rfl | rfl | rfl | rfl
      · rw [show tkA 1 0 = 1 from by decide] at hQ; exact ⟨fun _ => hQ, fun e => absurd e (by decide)⟩
      · rw [show tkA 1 1 = 1 from by decide] at hQ; exact ⟨fun e => absurd e (by decide), fun _ => ⟨fun _ => hQ, fun e => absurd e (by decide)⟩⟩
      · rw [show tkA 1 2 = -12 from by decide] at hQ; exact ⟨fun e => absurd e (by decide), fun _ => ⟨fun e => absurd e (by decide), fun _ => ⟨fun _ => ⟨fun e => absurd e (by decide), fun _ => ⟨fun e => absurd e (by decide), fun _ => ⟨fun _ => hQ, fun e => absurd e (by decide)⟩⟩⟩, fun e => absurd e (by decide)⟩⟩⟩
      · rw [show tkA 1 3 = -12 from by decide] at hQ; exact ⟨fun e => absurd e (by decide), fun _ => ⟨fun e => absurd e (by decide), fun _ => ⟨fun _ => ⟨fun _ => ⟨fun e => absurd e (by decide), fun _ => ⟨fun _ => hQ, fun e => absurd e (by decide)⟩⟩, fun e => absurd e (by decide)⟩, fun e => absurd e (by decide)⟩⟩⟩
      · rw [show tkA 1 4 = -12 from by decide] at hQ; exact ⟨fun e => absurd e (by decide), fun _ => ⟨fun e => absurd e (by decide), fun _ => ⟨fun _ => ⟨fun _ => ⟨fun _ => hQ, fun e => absurd e (by decide)⟩, fun e => absurd e (by decide)⟩, fun e => absurd e (by decide)⟩⟩⟩
      · rw [show tkA 1 5 = -12 from by decide] at hQ; exact ⟨fun e => absurd e (by decide), fun _ => ⟨fun e => absurd e (by decide), fun _ => ⟨fun _ => ⟨fun _ => ⟨fun _ => hQ, fun e => absurd e (by decide)⟩, fun e => absurd e (by decide)⟩, fun e => absurd e (by decide)⟩⟩⟩
      · rw [show tkA 1 6 = -12 from by decide] at hQ; exact ⟨fun e => absurd e (by decide), fun _ => ⟨fun e => absurd e (by decide), fun _ => ⟨fun _ => ⟨fun _ => ⟨fun _ => hQ, fun e => absurd e (by decide)⟩, fun e => absurd e (by decide)⟩, fun e => absurd e (by decide)⟩⟩⟩
    · rcases kcases e.1 e.2 with rfl | rfl | rfl | rfl | rfl | rfl | rfl
      · rw [show tkA 2 0 = 2 from by decide] at hQ; exact ⟨fun _ => hQ, fun e => absurd e (by decide)⟩
      · rw [show tkA 2 1 = -12 from by decide] at hQ; exact ⟨fun e => absurd e (by decide), fun _ => ⟨fun e => absurd e (by decide), fun _ => ⟨fun e => absurd e (by decide), fun _ => ⟨fun e => absurd e (by decide), fun _ => ⟨fun _ => ⟨fun _ => hQ, fun e => absurd e (by decide)⟩, fun e => absurd e (by decide)⟩⟩⟩⟩⟩
      · rw [show tkA 2 2 = 2 from by decide] at hQ; exact ⟨fun e => absurd e (by decide), fun _ => ⟨fun _ => hQ, fun e => absurd e (by decide)⟩⟩
      · rw [show tkA 2 3 = -12 from by decide] at hQ; exact ⟨fun e => absurd e (by decide), fun _ => ⟨fun e => absurd e (by decide), fun _ => ⟨fun _ => ⟨fun _ => ⟨fun e => absurd e (by decide), fun _ => ⟨fun _ => hQ, fun e => absurd e (by decide)⟩⟩, fun e => absurd e (by decide)⟩, fun e => absurd e (by decide)⟩⟩⟩
      · rw [show tkA 2 4 = -12 from by decide] at hQ; exact ⟨fun e => absurd e (by decide), fun _ => ⟨fun e => absurd e (by decide), fun _ => ⟨fun _ => ⟨fun _ => ⟨fun _ => hQ, fun e => absurd e (by decide)⟩, fun e => absurd e (by decide)⟩, fun e => absurd e (by decide)⟩⟩⟩
      · rw [show tkA 2 5 = -12 from by decide] at hQ; exact ⟨fun e => absurd e (by decide), fun _ => ⟨fun e => absurd e (by decide), fun _ => ⟨fun _ => ⟨fun _ => ⟨fun _ => hQ, fun e => absurd e (by decide)⟩, fun e => absurd e (by decide)⟩, fun e => absurd e (by decide)⟩⟩⟩
      · rw [show tkA 2 6 = -12 from by decide] at hQ; exact ⟨fun e => absurd e (by decide), fun _ => ⟨fun e => absurd e (by decide), fun _ => ⟨fun _ => ⟨fun _ => ⟨fun _ => hQ, fun e => absurd e (by decide)⟩, fun e => absurd e (by decide)⟩, fun e => absurd e (by decide)⟩⟩⟩
    · rcases kcases e.1 e.2 with rfl | rfl | rfl | rfl | rfl | rfl | rfl
      · rw [show tkA 3 0 = 3 from by decide] at hQ; exact ⟨fun _ => hQ, fun e => absurd e (by decide)⟩
      · rw [show tkA 3 1 = -12 from by decide] at hQ; exact ⟨fun e => absurd e (by decide), fun _ => ⟨fun e => absurd e (by decide), fun _ => ⟨fun e => absurd e (by decide), fun _ => ⟨fun e => absurd e (by decide), fun _ => ⟨fun _ => ⟨fun _ => hQ, fun e => absurd e (by decide)⟩, fun e => absurd e (by decide)⟩⟩⟩⟩⟩
      · rw [show tkA 3 2 = -12 from by decide] at hQ; exact ⟨fun e => absurd e (by decide), fun _ => ⟨fun e => absurd e (by decide), fun _ => ⟨fun _ => ⟨fun e => absurd e (by decide), fun _ => ⟨fun e => absurd e (by decide), fun _ => ⟨fun _ => hQ, fun e => absurd e (by decide)⟩⟩⟩, fun e => absurd e (by decide)⟩⟩⟩
      · rw [show tkA 3 3 = 3 from by decide] at hQ; exact ⟨fun e => absurd e (by decide), fun _ => ⟨fun _ => hQ, fun e => absurd e (by decide)⟩⟩
      · rw [show tkA 3 4 = -12 from by decide] at hQ; exact ⟨fun e => absurd e (by decide), fun _ => ⟨fun e => absurd e (by decide), fun _ => ⟨fun _ => ⟨fun _ => ⟨fun _ => hQ, fun e => absurd e (by decide)⟩, fun e => absurd e (by decide)⟩, fun e => absurd e (by decide)⟩⟩⟩
      · rw [show tkA 3 5 = -12 from by decide] at hQ; exact ⟨fun e => absurd e (by decide), fun _ => ⟨fun e => absurd e (by decide), fun _ => ⟨fun _ => ⟨fun _ => ⟨fun _ => hQ, fun e => absurd e (by decide)⟩, fun e => absurd e (by decide)⟩, fun e => absurd e (by decide)⟩⟩⟩
      · rw [show tkA 3 6 = -12 from by decide] at hQ; exact ⟨fun e => absurd e (by decide), fun _ => ⟨fun e => absurd e (by decide), fun _ => ⟨fun _ => ⟨fun _ => ⟨fun _ => hQ, fun e => absurd e (by decide)⟩, fun e => absurd e (by decide)⟩, fun e => absurd e (by decide)⟩⟩⟩
    · rcases kcases e.1 e.2 with rfl | rfl | rfl | rfl | rfl | rfl | rfl
      · rw [show tkA 4 0 = 4 from by decide] at hQ; exact ⟨fun _ => hQ, fun e => absurd e (by decide)⟩
      · rw [show tkA 4 1 = 4 from by decide] at hQ; exact ⟨fun e => absurd e (by decide), fun _ => ⟨fun e => absurd e (by decide), fun _ => ⟨fun e => absurd e (by decide), fun _ => ⟨fun _ => hQ, fun e => absurd e (by decide)⟩⟩⟩⟩
      · rw [show tkA 4 2 = -12 from by decide] at hQ; exact ⟨fun e => absurd e (by decide), fun _ => ⟨fun e => absurd e (by decide), fun _ => ⟨fun _ => ⟨fun e => absurd e (by decide), fun _ => ⟨fun e => absurd e (by decide), fun _ => ⟨fun _ => hQ, fun e => absurd e (by decide)⟩⟩⟩, fun e => absurd e (by decide)⟩⟩⟩
      · rw [show tkA 4 3 = -12 from by decide] at hQ; exact ⟨fun e => absurd e (by decide), fun _ => ⟨fun e => absurd e (by decide), fun _ => ⟨fun _ => ⟨fun _ => ⟨fun e => absurd e (by decide), fun _ => ⟨fun _ => hQ, fun e => absurd e (by decide)⟩⟩, fun e => absurd e (by decide)⟩, fun e => absurd e (by decide)⟩⟩⟩
      · rw [show tkA 4 4 = 4 from by decide] at hQ; exact ⟨fun e => absurd e (by decide), fun _ => ⟨fun _ => hQ, fun e => absurd e (by decide)⟩⟩
      · rw [show tkA 4 5 = -12 from by decide] at hQ; exact ⟨fun e => absurd e (by decide), fun _ => ⟨fun e => absurd e (by decide), fun _ => ⟨fun _ => ⟨fun _ => ⟨fun _ => hQ, fun e => absurd e (by decide)⟩, fun e => absurd e (by decide)⟩, fun e => absurd e (by decide)⟩⟩⟩
      · rw [show tkA 4 6 = -12 from by decide] at hQ; exact ⟨fun e => absurd e (by decide), fun _ => ⟨fun e => absurd e (by decide), fun _ => ⟨fun _ => ⟨fun _ => ⟨fun _ => hQ, fun e => absurd e (by decide)⟩, fun e => absurd e (by decide)⟩, fun e => absurd e (by decide)⟩⟩⟩
    · rcases kcases e.1 e.2 with rfl | rfl | rfl | rfl | rfl | rfl | rfl
      · rw [show tkA 5 0 = 5 from by decide] at hQ; exact ⟨fun _ => hQ, fun e => absurd e (by decide)⟩
      · rw [show tkA 5 1 = -12 from by decide] at hQ; exact ⟨fun e => absurd e (by decide), fun _ => ⟨fun e => absurd e (by decide), fun _ => ⟨fun e => absurd e (by decide), fun _ => ⟨fun e => absurd e (by decide), fun _ => ⟨fun _ => ⟨fun _ => hQ, fun e => absurd e (by decide)⟩, fun e => absurd e (by decide)⟩⟩⟩⟩⟩
      · rw [show tkA 5 2 = 5 from by decide] at hQ; exact ⟨fun e => absurd e (by decide), fun _ => ⟨fun e => absurd e (by decide), fun _ => ⟨fun _ => ⟨fun e => absurd e (by decide), fun _ => ⟨fun _ => hQ, fun e => absurd e (by decide)⟩⟩, fun e => absurd e (by decide)⟩⟩⟩
      · rw [show tkA 5 3 = -12 from by decide] at hQ; exact ⟨fun e => absurd e (by decide), fun _ => ⟨fun e => absurd e (by decide), fun _ => ⟨fun _ => ⟨fun _ => ⟨fun e => absurd e (by decide), fun _ => ⟨fun _ => hQ, fun e => absurd e (by decide)⟩⟩, fun e => absurd e (by decide)⟩, fun e => absurd e (by decide)⟩⟩⟩
      · rw [show tkA 5 4 = -12 from by decide] at hQ; exact ⟨fun e => absurd e (by decide), fun _ => ⟨fun e => absurd e (by decide), fun _ => ⟨fun _ => ⟨fun _ => ⟨fun _ => hQ, fun e => absurd e (by decide)⟩, fun e => absurd e (by decide)⟩, fun e => absurd e (by decide)⟩⟩⟩
      · rw [show tkA 5 5 = 5 from by decide] at hQ; exact ⟨fun e => absurd e (by decide), fun _ => ⟨fun _ => hQ, fun e => absurd e (by decide)⟩⟩
      · rw [show tkA 5 6 = -12 from by decide] at hQ; exact ⟨fun e => absurd e (by decide), fun _ => ⟨fun e => absurd e (by decide), fun _ => ⟨fun _ => ⟨fun _ => ⟨fun _ => hQ, fun e => absurd e (by decide)⟩, fun e => absurd e (by decide)⟩, fun e => absurd e (by decide)⟩⟩⟩
    · rcases kcases e.1 e.2 with rfl | rfl | rfl | rfl | rfl | rfl | rfl
      · rw [show tkA 6 0 = 6 from by decide] at hQ; exact ⟨fun _ => hQ, fun e => absurd e (by decide)⟩
      · rw [show tkA 6 1 = -12 from by decide] at hQ; exact ⟨fun e => absurd e (by decide), fun _ => ⟨fun e => absurd e (by decide), fun _ => ⟨fun e => absurd e (by decide), fun _ => ⟨fun e => absurd e (by decide), fun _ => ⟨fun _ => ⟨fun _ => hQ, fun e => absurd e (by decide)⟩, fun e => absurd e (by decide)⟩⟩⟩⟩⟩
      · rw [show tkA 6 2 = -12 from by decide] at hQ; exact ⟨fun e => absurd e (by decide), fun _ => ⟨fun e => absurd e (by decide), fun _ => ⟨fun _ => ⟨fun e => absurd e (by decide), fun _ => ⟨fun e => absurd e (by decide), fun _ => ⟨fun _ => hQ, fun e => absurd e (by decide)⟩⟩⟩, fun e => absurd e (by decide)⟩⟩⟩
      · rw [show tkA 6 3 = 6 from by decide] at hQ; exact ⟨fun e => absurd e (by decide), fun _ => ⟨fun e => absurd e (by decide), fun _ => ⟨fun _ => ⟨fun _ => ⟨fun e => absurd e (by decide), fun _ => ⟨fun e => absurd e (by decide), fun _ => hQ⟩⟩, fun e => absurd e (by decide)⟩, fun e => absurd e (by decide)⟩⟩⟩
      · rw [show tkA 6 4 = -12 from by decide] at hQ; exact ⟨fun e => absurd e (by decide), fun _ => ⟨fun e => absurd e (by decide), fun _ => ⟨fun _ => ⟨fun _ => ⟨fun _ => hQ, fun e => absurd e (by decide)⟩, fun e => absurd e (by decide)⟩, fun e => absurd e (by decide)⟩⟩⟩
      · rw [show tkA 6 5 = -12 from by decide] at hQ; exact ⟨fun e => absurd e (by decide), fun _ => ⟨fun e => absurd e (by decide), fun _ => ⟨fun _ => ⟨fun _ => ⟨fun _ => hQ, fun e => absurd e (by decide)⟩, fun e => absurd e (by decide)⟩, fun e => absurd e (by decide)⟩⟩⟩
      · rw [show tkA 6 6 = 6 from by decide] at hQ; exact ⟨fun e => absurd e (by decide), fun _ => ⟨fun _ => hQ, fun e => absurd e (by decide)⟩⟩
  · have e := band (cn2 e)
    rw [j0, j6] at e
    exact q2 e (bnand (cz2 e2))
  · have e := bnand (cz2 e)
    rw [j0, j6] at e
    exact e
theorem taken_pair (p k : Int32) (hi : INVE h) {K : Hp → Int32 → Int32 → Prop} (hK : ∀ r h', INVE h' → frm [] h h' → K h' r r) (hQ : ∀ r h1, HI h1 → REF X (dp + 1 + 1) 196 [.ref 93, .int p, .int k, .retAddr 0] K r h1 → Q (some (.int r)) h1) : Ends X (dp + 1 + 1) 93 0 [.ref 0, .int p, .int k, .retAddr 0, .retAddr 0, .retAddr 0] [] h Q := by
  have hh := hi.1.1
  have r1 : h.2.1 1 0 = h.2.1 93 0 := hi.1.2.2.2.2.2.2.1
  have b := hh.iv 1 0 (r := (0, 7)) rfl
  simp only at b
  refine ctak_ok p k hh (fun c => ?_) (fun c c2 => ?_) (fun c c2 => ?_)
  · exact hQ _ h hh (mtak_ok p k hh (fun _ => ⟨_, rfl, hh.hs, hK _ h hi frm_refl⟩) (fun d => absurd d c) (fun d => absurd d c))
  · rw [r1] at c2
    exact hQ _ h hh (mtak_ok p k hh (fun d => absurd c d) (fun _ _ => ⟨_, rfl, hh.hs, hK _ h hi frm_refl⟩) (fun _ d => absurd d c2))
  · have hn : p.toInt.toNat < 7 := by have := c2.1; have := c2.2; omega
    rw [hi.2.1.1 _ hn]
    rw [r1] at c2
    exact hQ _ h hh (mtak_ok p k hh (fun d => absurd c d) (fun _ d => absurd c2 d) (fun _ _ => ⟨_, rfl, hh.hs, hK _ h hi frm_refl⟩))
/-! people -/
theorem joinH_r {k v l p s : Int32} (j : Nat) : (joinH h k v l p s).2.1 2 j = (if j = (h.2.1 1 0).toInt.toNat then k else h.2.1 2 j) ∧ (joinH h k v l p s).2.1 3 j = (if j = (h.2.1 1 0).toInt.toNat then v else h.2.1 3 j) ∧ (joinH h k v l p s).2.1 5 j = (if j = (h.2.1 1 0).toInt.toNat then p else h.2.1 5 j) := by
  unfold joinH
  refine ⟨?_, ?_, ?_⟩
  · rw [put_ne (by omega), put_ne (by omega), put_ne (by omega), put_ne (by omega), put_ne (by omega), put_if]
  · rw [put_ne (by omega), put_ne (by omega), put_ne (by omega), put_ne (by omega), put_if, put_ne (by omega)]
  · rw [put_ne (by omega), put_ne (by omega), put_if, put_ne (by omega), put_ne (by omega), put_ne (by omega)]
theorem joinH_f {k v l p s : Int32} {a j : Nat} (q : inW [(2, 999), (3, 999), (4, 999), (5, 999), (6, 999), (1, 0)] a j = false) : (joinH h k v l p s).2.1 a j = h.2.1 a j := by
  simp [inW] at q
  unfold joinH
  rw [put_ne (by omega), put_ne (by omega), put_ne (by omega), put_ne (by omega), put_ne (by omega), put_ne (by omega)]
theorem per_pairE (k v l p s : Int32) (hi : INVE h) {K : Hp → Int32 → Int32 → Prop} (hK : ∀ r h', INVE h' → frm WPJ h h' → K h' r r) (hQ : ∀ r h1, HI h1 → REF X (dp + 1) 114 [.ref 93, .int k, .int v, .int l, .int p, .int s, .retAddr 0] K r h1 → Q (some (.int r)) h1) : Ends X (dp + 1) 63 0 [.ref 0, .int k, .int v, .int l, .int p, .int s] [] h Q := by
  have hh := hi.1.1
  have r1 : h.2.1 1 0 = h.2.1 93 0 := hi.1.2.2.2.2.2.2.1
  have b := hh.iv 1 0 (r := (0, 7)) rfl
  simp only at b
  obtain ⟨⟨k1, k2, k3, k4, k5, k6⟩, ⟨w1, w2, w3, w4⟩, p3, p4, p5, p6⟩ := id hi.2
  refine cper_ok k v l p s hh ?_
  by_cases c : perOK (h.2.1 1 0) k v l p s = true
  · rw [if_pos c]
    obtain ⟨gc, fc, c1, c0⟩ := joinH_ok hh c
    have uh : ∀ a j, inW [(2, 999), (3, 999), (4, 999), (5, 999), (6, 999), (1, 0)] a j = false → (joinH h k v l p s).2.1 a j = h.2.1 a j := fun a j q => joinH_f q
    have jr := fun j => joinH_r (h := h) (k := k) (v := v) (l := l) (p := p) (s := s) j
    have n7 : ¬ (h.2.1 1 0).toInt = 7 := by
      have := c
      unfold perOK at this
      simp only [Bool.and_eq_true, Bool.not_eq_true', decide_eq_false_iff_not] at this
      exact this.2
    generalize joinH h k v l p s = hc at gc fc c1 c0 jr uh
    refine hQ _ hc gc ?_
    refine mper_ok k v l p s gc (fun h' z1 z2 z3 => ⟨_, rfl, z1.hs, ?_⟩)
    rw [c0, ← r1] at z3 ⊢
    rw [if_pos c] at z3
    refine hK _ h' ?_ (frm_trans fc (frm_mono (by decide) z2))
    obtain ⟨y0, y1, y2, y3, y4, y5, y6, y7⟩ := z3
    rw [c0, ← r1] at y2 y3 y5 y7 y0
    have f : frm WPJ h h' := frm_trans fc (frm_mono (by decide) z2)
    have u : ∀ a j, inW WPE a j = false → h'.2.1 a j = hc.2.1 a j := fun a j q => frI z2 q
    have u2 : ∀ a j, inW WPJ a j = false → hc.2.1 a j = h.2.1 a j := fun a j q => frI fc q
    have e10 : h'.2.1 1 0 = h.2.1 1 0 + 1 := by rw [u 1 0 rfl, c1]
    have g1 : (h.2.1 1 0 + 1).toInt = (h.2.1 1 0).toInt + 1 := by rw [i_add (by rw [i1]; omega) (by rw [i1]; omega), i1]
    refine ⟨INV_of (W := WPJ) (by decide) hi.1 z1 f ?_ ?_ ?_ ?_ ?_ ?_ ?_ ?_, ⟨fun j hj => ?_, fun j hj => ?_, fun j hj => ?_, ?_, ?_, ?_⟩, ⟨fun j hj => ?_, ?_, fun j q1 q2 => ?_, ?_⟩, EB_f (W := WPJ) (by decide) f p3, ES_f (W := WPJ) (by decide) f p4, EA_f (W := WPJ) (by decide) f p5, ET_f (W := WPJ) (by decide) f p6⟩
    · rw [frI f rfl]; exact hi.1.2.1.1.1
    · rw [frI f rfl]; exact hi.1.2.1.1.2.1
    · rw [frI f rfl]; exact hi.1.2.2.1
    · rw [frI f rfl]; exact hi.1.2.2.2.1
    · rw [frI f rfl]; exact hi.1.2.2.2.2.1
    · rw [e10, y0]
    · rw [frI f rfl, frI f rfl]; exact hi.1.2.2.2.2.2.2.2.1
    · rw [frI f rfl, frI f rfl]; exact hi.1.2.2.2.2.2.2.2.2
    · rw [u 2 j (by simp [inW, WPE]), (jr j).1, y2 j, show hc.2.1 94 j = h.2.1 94 j from uh 94 j (by simp [inW])]
      split
      · rfl
      · exact k1 j hj
    · rw [u 3 j (by simp [inW, WPE]), (jr j).2.1, y3 j, show hc.2.1 95 j = h.2.1 95 j from uh 95 j (by simp [inW])]
      split
      · rfl
      · exact k2 j hj
    · rw [u 5 j (by simp [inW, WPE]), (jr j).2.2, y5 j, show hc.2.1 97 j = h.2.1 97 j from uh 97 j (by simp [inW])]
      split
      · rfl
      · exact k3 j hj
    · exact eqr_fr (fun j => frI f (by simp [inW, WPJ])) (fun j => frI f (by simp [inW, WPJ])) k4
    · exact eqr_fr (fun j => frI f (by simp [inW, WPJ])) (fun j => frI f (by simp [inW, WPJ])) k5
    · exact eqr_fr (fun j => frI f (by simp [inW, WPJ])) (fun j => frI f (by simp [inW, WPJ])) k6
    · rw [frI f (a := 7) (by simp [inW, WPJ]), y7 j, show hc.2.1 99 j = h.2.1 99 j from uh 99 j (by simp [inW])]
      split
      · exact w3 j (by omega) hj
      · exact w1 j hj
    · exact eqr_fr (fun j => frI f (by simp [inW, WPJ])) (fun j => frI f (by simp [inW, WPJ])) w2
    · rw [e10, g1] at q1
      rw [frI f (a := 7) (by simp [inW, WPJ])]
      exact w3 j (by omega) q2
    · exact zrr_fr (fun j => frI f (by simp [inW, WPJ])) (frI f rfl) w4
  · rw [if_neg c]
    refine hQ _ h hh (mper_ok k v l p s hh (fun h' z1 z2 z3 => ⟨_, rfl, z1.hs, ?_⟩))
    rw [← r1] at z3 ⊢
    rw [if_neg c] at z3
    rw [z3]
    exact hK _ h hi frm_refl
/-! the image -/
theorem hpM_at {a b n k : Nat} (hk : k < n) : (hpM h a b 0 0 n).2.1 a k = h.2.1 b k := by
  show (if a = a then va_cpy (h.2.1 b) (h.2.1 a) 0 0 n else h.2.1 a) k = _
  rw [if_pos rfl]
  unfold va_cpy
  rw [if_pos (by omega), Nat.zero_add, Nat.sub_zero]
theorem bec_1 {a b j : Nat} (hab : a + 8 ≤ b ∨ b + 8 ≤ a) (hj : j < 7) : (bec h a b).2.1 (a + 1) j = h.2.1 (b + 1) j := by
  unfold bec
  rw [put_ne (by omega), put_ne (by omega), hpM_ne (by omega), put_ne (by omega), put_ne (by omega), put_ne (by omega), hpM_ne (by omega), hpM_ne (by omega), hpM_ne (by omega), hpM_ne (by omega), hpM_ne (by omega), hpM_at hj, put_ne (by omega)]
theorem bec_2 {a b j : Nat} (hab : a + 8 ≤ b ∨ b + 8 ≤ a) (hj : j < 7) : (bec h a b).2.1 (a + 2) j = h.2.1 (b + 2) j := by
  unfold bec
  rw [put_ne (by omega), put_ne (by omega), hpM_ne (by omega), put_ne (by omega), put_ne (by omega), put_ne (by omega), hpM_ne (by omega), hpM_ne (by omega), hpM_ne (by omega), hpM_ne (by omega), hpM_at hj, hpM_ne (by omega), put_ne (by omega)]
theorem bec_3 {a b j : Nat} (hab : a + 8 ≤ b ∨ b + 8 ≤ a) (hj : j < 7) : (bec h a b).2.1 (a + 3) j = h.2.1 (b + 3) j := by
  unfold bec
  rw [put_ne (by omega), put_ne (by omega), hpM_ne (by omega), put_ne (by omega), put_ne (by omega), put_ne (by omega), hpM_ne (by omega), hpM_ne (by omega), hpM_ne (by omega), hpM_at hj, hpM_ne (by omega), hpM_ne (by omega), put_ne (by omega)]
theorem bec_4 {a b j : Nat} (hab : a + 8 ≤ b ∨ b + 8 ≤ a) (hj : j < 7) : (bec h a b).2.1 (a + 4) j = h.2.1 (b + 4) j := by
  unfold bec
  rw [put_ne (by omega), put_ne (by omega), hpM_ne (by omega), put_ne (by omega), put_ne (by omega), put_ne (by omega), hpM_ne (by omega), hpM_ne (by omega), hpM_at hj, hpM_ne (by omega), hpM_ne (by omega), hpM_ne (by omega), put_ne (by omega)]
theorem bec_5 {a b j : Nat} (hab : a + 8 ≤ b ∨ b + 8 ≤ a) (hj : j < 7) : (bec h a b).2.1 (a + 5) j = h.2.1 (b + 5) j := by
  unfold bec
  rw [put_ne (by omega), put_ne (by omega), hpM_ne (by omega), put_ne (by omega), put_ne (by omega), put_ne (by omega), hpM_ne (by omega), hpM_at hj, hpM_ne (by omega), hpM_ne (by omega), hpM_ne (by omega), hpM_ne (by omega), put_ne (by omega)]
theorem bec_6 {a b j : Nat} (hab : a + 8 ≤ b ∨ b + 8 ≤ a) (hj : j < 28) : (bec h a b).2.1 (a + 6) j = h.2.1 (b + 6) j := by
  unfold bec
  rw [put_ne (by omega), put_ne (by omega), hpM_ne (by omega), put_ne (by omega), put_ne (by omega), put_ne (by omega), hpM_at hj, hpM_ne (by omega), hpM_ne (by omega), hpM_ne (by omega), hpM_ne (by omega), hpM_ne (by omega), put_ne (by omega)]
theorem bec_7 {a b j : Nat} (hab : a + 8 ≤ b ∨ b + 8 ≤ a) (hj : j < 12) : (bec h a b).2.1 (a + 7) j = h.2.1 (b + 7) j := by
  unfold bec
  rw [put_ne (by omega), put_ne (by omega), hpM_at hj, put_ne (by omega), put_ne (by omega), put_ne (by omega), hpM_ne (by omega), hpM_ne (by omega), hpM_ne (by omega), hpM_ne (by omega), hpM_ne (by omega), hpM_ne (by omega), put_ne (by omega)]
theorem bec_f9 {a b : Nat} : (bec h a b).2.1 a 9 = h.2.1 b 9 := by
  unfold bec
  rw [put_ne (by omega), put_ne (by omega), hpM_ne (by omega), put_at]
theorem bec_f11 {a b : Nat} : (bec h a b).2.1 a 11 = h.2.1 b 11 := by
  unfold bec
  rw [put_ne (by omega), put_at]
theorem bec_f12 {a b : Nat} : (bec h a b).2.1 a 12 = h.2.1 b 12 := by
  unfold bec
  rw [put_at]
theorem bec_o {a b c k : Nat} (hc : c < a ∨ a + 8 ≤ c) : (bec h a b).2.1 c k = h.2.1 c k := by
  unfold bec
  rw [put_ne (by omega), put_ne (by omega), hpM_ne (by omega), put_ne (by omega), put_ne (by omega), put_ne (by omega), hpM_ne (by omega), hpM_ne (by omega), hpM_ne (by omega), hpM_ne (by omega), hpM_ne (by omega), hpM_ne (by omega), put_ne (by omega)]
theorem img_pairE (hi : INVE h) {K : Hp → Int32 → Int32 → Prop} (hK : ∀ r h', INVE h' → frm WIM h h' → h'.2.1 9 12 = h.2.1 1 12 → h'.2.1 93 45 = h.2.1 93 10 → K h' r r) (hQ : ∀ r h1, HI h1 → REF X (dp + 1) 184 [.ref 93, .retAddr 0] K r h1 → Q (some (.int r)) h1) : Ends X (dp + 1) 89 0 [.ref 0] [] h Q := by
  have hh := hi.1.1
  obtain ⟨-, ⟨⟨t1, t2, t3⟩, j1⟩, hg, hs9, hq9, hrx, r1, r2, r3⟩ := id hi.1
  obtain ⟨⟨k1, k2, k3, k4, k5, k6⟩, ⟨w1, w2, w3, w4⟩, ⟨s1, s2, s3, s4⟩, ⟨v1, v2⟩, p5, p6⟩ := id hi.2
  have e1 := cimg_ok (X := X) (dp := dp) (h := h) (Q := fun v h' => v = some (.int (h.2.1 1 0)) ∧ h' = hpI (bec h 9 1) 0 2 1) hh.hs ⟨rfl, rfl⟩
  have e2 := gd1 161 (T := k_161) (by rfl) X (dp + 1) (fun _ => 0) h [.ref 0] (by show 1 ≤ dp + 1; omega) hh (fun q => by cases q) (fun v q hq => by cases hq) ⟨⟨0, rfl, List.mem_singleton.mpr rfl⟩, trivial⟩ (fun q hq => by cases hq)
  refine (e1.and e2).mono ?_
  rintro v hc ⟨⟨rfl, rfl⟩, gc, fc, -⟩
  have c9 : (hpI (bec h 9 1) 0 2 1).2.1 9 0 = h.2.1 1 0 := by rw [put_ne (by omega), bec_0]
  have c2 : (hpI (bec h 9 1) 0 2 1).2.1 0 2 = 1 := put_at
  have ce1 : ∀ j, j < 7 → (hpI (bec h 9 1) 0 2 1).2.1 10 j = h.2.1 2 j := fun j hj => by rw [put_ne (by omega)]; exact bec_1 (a := 9) (b := 1) (by omega) hj
  have ce2 : ∀ j, j < 7 → (hpI (bec h 9 1) 0 2 1).2.1 11 j = h.2.1 3 j := fun j hj => by rw [put_ne (by omega)]; exact bec_2 (a := 9) (b := 1) (by omega) hj
  have ce4 : ∀ j, j < 7 → (hpI (bec h 9 1) 0 2 1).2.1 13 j = h.2.1 5 j := fun j hj => by rw [put_ne (by omega)]; exact bec_4 (a := 9) (b := 1) (by omega) hj
  have ce6 : ∀ j, j < 28 → (hpI (bec h 9 1) 0 2 1).2.1 15 j = h.2.1 7 j := fun j hj => by rw [put_ne (by omega)]; exact bec_6 (a := 9) (b := 1) (by omega) hj
  have ce7 : ∀ j, j < 12 → (hpI (bec h 9 1) 0 2 1).2.1 16 j = h.2.1 8 j := fun j hj => by rw [put_ne (by omega)]; exact bec_7 (a := 9) (b := 1) (by omega) hj
  have cf9 : (hpI (bec h 9 1) 0 2 1).2.1 9 9 = h.2.1 1 9 := by rw [put_ne (by omega)]; exact bec_f9
  have cf11 : (hpI (bec h 9 1) 0 2 1).2.1 9 11 = h.2.1 1 11 := by rw [put_ne (by omega)]; exact bec_f11
  have cf12 : (hpI (bec h 9 1) 0 2 1).2.1 9 12 = h.2.1 1 12 := by rw [put_ne (by omega)]; exact bec_f12
  have uh : ∀ c k, 93 ≤ c → (hpI (bec h 9 1) 0 2 1).2.1 c k = h.2.1 c k := fun c k q => by rw [put_ne (by omega)]; exact bec_o (by omega)
  generalize hpI (bec h 9 1) 0 2 1 = hc at *
  have fc : frm (cW k_161) h hc := fc
  have c0 : hc.2.1 93 0 = h.2.1 93 0 := uh 93 0 (by omega)
  refine hQ _ hc gc (mimg_ok gc (fun h' z1 z2 z3 x7 x6 x1 x2 x3 x4 x5 => ⟨_, rfl, z1.hs, ?_⟩))
  rw [c0, ← r1]
  refine hK _ h' ?_ (frm_trans (frm_mono (by decide) fc) (frm_mono (by decide) z2)) (by rw [frI z2 (a := 9) rfl]; exact cf12) (by rw [z3.2.1]; exact uh 93 10 (by omega))
  have f : frm WIM h h' := frm_trans (frm_mono (by decide) fc) (frm_mono (by decide) z2)
  obtain ⟨y1, y2, y3, y4, y5, y6, y7⟩ := z3
  have sz : h'.2.1 9 0 = h.2.1 1 0 := by rw [frI z2 (a := 9) rfl, c9]
  have iv : INV h' := by
    refine INV_of (W := WIM) (by decide) hi.1 z1 f ?_ ?_ ?_ ?_ ?_ ?_ ?_ ?_
    · rw [frI f rfl]; exact t1
    · rw [y2, frI fc rfl]; exact t1
    · rw [frI f rfl]; exact hg
    · rw [frI f rfl]; exact hs9
    · rw [y4, frI fc rfl]; exact hs9
    · rw [frI f rfl, frI f rfl]; exact r1
    · rw [sz, y3, c0]; exact r1
    · rw [frI z2 (a := 0) rfl, c2, y1]
  exact ⟨iv, ⟨eqr_fr (fun j => frI f (by simp [inW, WIM, cW, k_161, Wmig, w_11])) (fun j => frI f (by simp [inW, WIM, cW, k_161, Wmig, w_11])) k1, eqr_fr (fun j => frI f (by simp [inW, WIM, cW, k_161, Wmig, w_11])) (fun j => frI f (by simp [inW, WIM, cW, k_161, Wmig, w_11])) k2, eqr_fr (fun j => frI f (by simp [inW, WIM, cW, k_161, Wmig, w_11])) (fun j => frI f (by simp [inW, WIM, cW, k_161, Wmig, w_11])) k3, fun j hj => by
      rw [frI z2 (a := 10) (by simp [inW, Wmig]), ce1 j hj, x1 j hj, uh 94 j (by omega)]
      exact k1 j hj, fun j hj => by
      rw [frI z2 (a := 11) (by simp [inW, Wmig]), ce2 j hj, x2 j hj, uh 95 j (by omega)]
      exact k2 j hj, fun j hj => by
      rw [frI z2 (a := 13) (by simp [inW, Wmig]), ce4 j hj, x4 j hj, uh 97 j (by omega)]
      exact k3 j hj⟩, ⟨eqr_fr (fun j => frI f (by simp [inW, WIM, cW, k_161, Wmig, w_11])) (fun j => frI f (by simp [inW, WIM, cW, k_161, Wmig, w_11])) w1, fun j hj => by
      rw [frI z2 (a := 15) (by simp [inW, Wmig]), ce6 j hj, x6 j hj, uh 99 j (by omega)]
      exact w1 j hj, zrr_fr (fun j => frI f (by simp [inW, WIM, cW, k_161, Wmig, w_11])) (frI f (by simp [inW, WIM, cW, k_161, Wmig, w_11])) w3, fun j q1 q2 => by
      rw [sz] at q1
      rw [frI z2 (a := 15) (by simp [inW, Wmig]), ce6 j q2]
      exact w3 j q1 q2⟩, ⟨eqr_fr (fun j => frI f (by simp [inW, WIM, cW, k_161, Wmig, w_11])) (fun j => frI f (by simp [inW, WIM, cW, k_161, Wmig, w_11])) s1, fun j hj => by
      rw [frI z2 (a := 16) (by simp [inW, Wmig]), ce7 j hj, x7 j hj, uh 114 j (by omega)]
      exact s1 j hj, by rw [frI f (a := 1) (by simp [inW, WIM, cW, k_161, Wmig, w_11]), frI f (a := 93) (k := 42) (by simp [inW, WIM, cW, k_161, Wmig, w_11])]; exact s3, by rw [frI z2 (a := 9) (by simp [inW, Wmig]), cf11, y7, uh 93 42 (by omega)]; exact s3⟩, ⟨by rw [frI f (a := 1) (by simp [inW, WIM, cW, k_161, Wmig, w_11]), frI f (a := 93) (k := 41) (by simp [inW, WIM, cW, k_161, Wmig, w_11])]; exact v1, by rw [frI z2 (a := 9) (by simp [inW, Wmig]), cf9, y6, uh 93 41 (by omega)]; exact v1⟩, EA_f (W := WIM) (by decide) f p5, ET_f (W := WIM) (by decide) f p6⟩
theorem und_pairE (hi : INVE h) {K : Hp → Int32 → Int32 → Prop} (hK : ∀ r h', INVE h' → frm WUN h h' → (h' = h ∨ (h'.2.1 1 12 = h.2.1 9 12 ∧ h'.2.1 93 10 = h.2.1 93 45)) → K h' r r) (hQ : ∀ r h1, HI h1 → REF X (dp + 1) 185 [.ref 93, .retAddr 0] K r h1 → Q (some (.int r)) h1) : Ends X (dp + 1) 90 0 [.ref 0] [] h Q := by
  have hh := hi.1.1
  obtain ⟨-, ⟨⟨t1, t2, t3⟩, j1⟩, hg, hs9, hq9, hrx, r1, r2, r3⟩ := id hi.1
  obtain ⟨⟨k1, k2, k3, k4, k5, k6⟩, ⟨w1, w2, w3, w4⟩, ⟨s1, s2, s3, s4⟩, ⟨v1, v2⟩, p5, p6⟩ := id hi.2
  have e1 := cund_ok (X := X) (dp := dp) (h := h) (Q := fun v h' => ((h.2.1 0 2).toInt = 0 ∧ v = some (.int (-3)) ∧ h' = h) ∨ (¬ (h.2.1 0 2).toInt = 0 ∧ v = some (.int (h.2.1 9 0)) ∧ h' = bec h 1 9)) hh.hs (fun q => Or.inl ⟨q, rfl, rfl⟩) (fun q => Or.inr ⟨q, rfl, rfl⟩)
  have e2 := gd1 163 (T := k_163) (by rfl) X (dp + 1) (fun _ => 0) h [.ref 0] (by show 1 ≤ dp + 1; omega) hh (fun q => by cases q) (fun v q hq => by cases hq) ⟨⟨0, rfl, List.mem_singleton.mpr rfl⟩, trivial⟩ (fun q hq => by cases hq)
  refine (e1.and e2).mono ?_
  rintro v hc ⟨⟨q, rfl, rfl⟩ | ⟨q, rfl, rfl⟩, gc, fc, -⟩
  · refine hQ _ _ gc (mund_ok gc (fun _ => ⟨_, rfl, gc.hs, hK _ _ hi frm_refl (Or.inl rfl)⟩) (fun n => absurd q ?_))
    rw [r3]
    exact n
  · have c1 : (bec h 1 9).2.1 1 0 = h.2.1 9 0 := bec_0
    have ce1 : ∀ j, j < 7 → (bec h 1 9).2.1 2 j = h.2.1 10 j := fun j hj => bec_1 (a := 1) (b := 9) (by omega) hj
    have ce2 : ∀ j, j < 7 → (bec h 1 9).2.1 3 j = h.2.1 11 j := fun j hj => bec_2 (a := 1) (b := 9) (by omega) hj
    have ce4 : ∀ j, j < 7 → (bec h 1 9).2.1 5 j = h.2.1 13 j := fun j hj => bec_4 (a := 1) (b := 9) (by omega) hj
    have ce6 : ∀ j, j < 28 → (bec h 1 9).2.1 7 j = h.2.1 15 j := fun j hj => bec_6 (a := 1) (b := 9) (by omega) hj
    have ce7 : ∀ j, j < 12 → (bec h 1 9).2.1 8 j = h.2.1 16 j := fun j hj => bec_7 (a := 1) (b := 9) (by omega) hj
    have cf9 : (bec h 1 9).2.1 1 9 = h.2.1 9 9 := bec_f9
    have cf11 : (bec h 1 9).2.1 1 11 = h.2.1 9 11 := bec_f11
    have cf12 : (bec h 1 9).2.1 1 12 = h.2.1 9 12 := bec_f12
    have uh : ∀ c k, 93 ≤ c → (bec h 1 9).2.1 c k = h.2.1 c k := fun c k q => bec_o (by omega)
    generalize bec h 1 9 = hc at *
    have fc : frm (cW k_163) h hc := fc
    have c44 : hc.2.1 93 44 = h.2.1 93 44 := uh 93 44 (by omega)
    have c46 : hc.2.1 93 46 = h.2.1 93 46 := uh 93 46 (by omega)
    refine hQ _ hc gc (mund_ok gc (fun n => absurd n (by rw [c44, ← r3]; exact q)) (fun _ h' z1 z2 z3 x7 x6 x1 x2 x3 x4 x5 => ⟨_, rfl, z1.hs, ?_⟩))
    rw [c46, ← r2]
    refine hK _ h' ?_ (frm_trans (frm_mono (by decide) fc) (frm_mono (by decide) z2)) (Or.inr ⟨by rw [frI z2 (a := 1) rfl]; exact cf12, by rw [z3.1]; exact uh 93 45 (by omega)⟩)
    have f : frm WUN h h' := frm_trans (frm_mono (by decide) fc) (frm_mono (by decide) z2)
    obtain ⟨y1, y2, y3, y4, y5, y6⟩ := z3
    have sz : h'.2.1 1 0 = h.2.1 9 0 := by rw [frI z2 (a := 1) rfl, c1]
    have iv : INV h' := by
      refine INV_of (W := WUN) (by decide) hi.1 z1 f ?_ ?_ ?_ ?_ ?_ ?_ ?_ ?_
      · rw [y1, frI fc rfl]; exact t2
      · rw [frI f rfl]; exact t2
      · rw [frI f rfl]; exact hg
      · rw [y3, frI fc rfl]; exact hq9
      · rw [frI f rfl]; exact hq9
      · rw [sz, y2, c46, r2]
      · rw [frI f rfl, frI f rfl]; exact r2
      · rw [frI f rfl, frI f rfl]; exact r3
    exact ⟨iv, ⟨fun j hj => by
      rw [frI z2 (a := 2) (by simp [inW, Wmun]), ce1 j hj, x1 j hj, uh 115 j (by omega)]
      exact k4 j hj, fun j hj => by
      rw [frI z2 (a := 3) (by simp [inW, Wmun]), ce2 j hj, x2 j hj, uh 116 j (by omega)]
      exact k5 j hj, fun j hj => by
      rw [frI z2 (a := 5) (by simp [inW, Wmun]), ce4 j hj, x4 j hj, uh 118 j (by omega)]
      exact k6 j hj, eqr_fr (fun j => frI f (by simp [inW, WUN, cW, k_163, Wmun, w_12])) (fun j => frI f (by simp [inW, WUN, cW, k_163, Wmun, w_12])) k4, eqr_fr (fun j => frI f (by simp [inW, WUN, cW, k_163, Wmun, w_12])) (fun j => frI f (by simp [inW, WUN, cW, k_163, Wmun, w_12])) k5, eqr_fr (fun j => frI f (by simp [inW, WUN, cW, k_163, Wmun, w_12])) (fun j => frI f (by simp [inW, WUN, cW, k_163, Wmun, w_12])) k6⟩, ⟨fun j hj => by
      rw [frI z2 (a := 7) (by simp [inW, Wmun]), ce6 j hj, x6 j hj, uh 120 j (by omega)]
      exact w2 j hj, eqr_fr (fun j => frI f (by simp [inW, WUN, cW, k_163, Wmun, w_12])) (fun j => frI f (by simp [inW, WUN, cW, k_163, Wmun, w_12])) w2, fun j q1 q2 => by
      rw [sz] at q1
      rw [frI z2 (a := 7) (by simp [inW, Wmun]), ce6 j q2]
      exact w4 j q1 q2, zrr_fr (fun j => frI f (by simp [inW, WUN, cW, k_163, Wmun, w_12])) (frI f (by simp [inW, WUN, cW, k_163, Wmun, w_12])) w4⟩, ⟨fun j hj => by
      rw [frI z2 (a := 8) (by simp [inW, Wmun]), ce7 j hj, x7 j hj, uh 121 j (by omega)]
      exact s2 j hj, eqr_fr (fun j => frI f (by simp [inW, WUN, cW, k_163, Wmun, w_12])) (fun j => frI f (by simp [inW, WUN, cW, k_163, Wmun, w_12])) s2, by rw [frI z2 (a := 1) (by simp [inW, Wmun]), cf11, y6, uh 93 50 (by omega)]; exact s4, by rw [frI f (a := 9) (by simp [inW, WUN, cW, k_163, Wmun, w_12]), frI f (a := 93) (k := 50) (by simp [inW, WUN, cW, k_163, Wmun, w_12])]; exact s4⟩, ⟨by rw [frI z2 (a := 1) (by simp [inW, Wmun]), cf9, y5, uh 93 49 (by omega)]; exact v2, by rw [frI f (a := 9) (by simp [inW, WUN, cW, k_163, Wmun, w_12]), frI f (a := 93) (k := 49) (by simp [inW, WUN, cW, k_163, Wmun, w_12])]; exact v2⟩, EA_f (W := WUN) (by decide) f p5, ET_f (W := WUN) (by decide) f p6⟩
end PAIRS
end JN99t6pairs
section JN99t7plaine
/-! The calls that touch nothing of what both sides hold alike. -/
theorem st_plainE {T : Ctr} (i : Nat) (hT : (TBL.take 328)[i]? = some T) (hd : disW SUPI (cW T) = true) (hd2 : disW SUPE (cW T) = true) {X : Scr} {dp : Nat} {ρ : Nat → Int} {h : Hp} {as : List Value} {Q : Option Value → Hp → Prop} (hD : cD T ≤ dp) (hi : INVE h) (hb : bOK ρ (cB T)) (ha : al2 (vm (cB T).length ρ) (cA T) as) (hF : cF T = []) (hQ : ∀ v h', INVE h' → Qpost (cB T).length ρ (cP T) v h' → Q v h') : Ends X dp (cY T) 0 (entL (mMaxL (cY T)) as) [] h Q :=
  (gd1 i hT X dp ρ h as hD hi.1.1 (fun _ => hi.1.2.1) hb ha (by rw [hF]; intro q hq; cases hq)).mono (fun v h' q => hQ v h' ⟨INV_fr hd q.1 q.2.1 hi.1, EQV_f hd2 q.2.1 hi.2⟩ q.2.2)
theorem st_shoutE {T : Ctr} (i : Nat) (hT : (TBL.take 328)[i]? = some T) (hd : disW SUPS (cW T) = true) (hd2 : disW SUPE (cW T) = true) (hp : (cP T).all (fun P => P.2.2.1.any (fun q => q.1 == 93 && q.2.1 == 1 && rngOK (trg P.1 q.2.2) (0, 999))) = true) {X : Scr} {dp : Nat} {ρ : Nat → Int} {h : Hp} {as : List Value} {Q : Option Value → Hp → Prop} (hD : cD T ≤ dp) (hi : INVE h) (hb : bOK ρ (cB T)) (ha : al2 (vm (cB T).length ρ) (cA T) as) (hF : ∀ q ∈ cF T, tOK (cB T).length ρ q.2.2 (h.2.1 q.1 q.2.1).toInt ∧ ∃ ci, SHl[q.1]? = some (.inr ci)) (hQ : ∀ v h', INVE h' → Qpost (cB T).length ρ (cP T) v h' → Q v h') : Ends X dp (cY T) 0 (entL (mMaxL (cY T)) as) [] h Q :=
  (gd1 i hT X dp ρ h as hD hi.1.1 (fun _ => hi.1.2.1) hb ha hF).mono (fun v h' q => hQ v h' ⟨INV_frS hd q.1 q.2.1 (qp_fact q.2.2 hp).2 hi.1, EQV_f hd2 q.2.1 hi.2⟩ q.2.2)
theorem pe_55 {X : Scr} {dp : Nat} {h : Hp} {Q : Option Value → Hp → Prop} (a b c : Int32) (hD : cD k_55 ≤ dp) (hi : INVE h) (hQ : ∀ (r : Int32) h', INVE h' → Q (some (.int r)) h') : Ends X dp 65 0 (entL (mMaxL 65) [.ref 0, .int a, .int b, .int c]) [] h Q := by
  refine st_plainE (T := k_55) 55 (by rfl) (by decide +kernel) (by decide +kernel) (ρ := fun v => if v = 0 then a.toInt else if v = 1 then b.toInt else c.toInt) hD hi ?_ ⟨⟨0, rfl, List.mem_singleton.mpr rfl⟩, ⟨a, rfl, by decide, by show a.toInt = a.toInt + 0; omega⟩, ⟨b, rfl, by decide, by show b.toInt = b.toInt + 0; omega⟩, ⟨c, rfl, by decide, by show c.toInt = c.toInt + 0; omega⟩, trivial⟩ rfl ?_
  · intro v q hq
    match v, hq with
    | 0, hq => cases hq; exact fI_ok a
    | 1, hq => cases hq; exact fI_ok b
    | 2, hq => cases hq; exact fI_ok c
    | v + 3, hq => cases hq
  · intro v h' p q
    obtain ⟨r, e, -⟩ := qp_int (lo := -2147483648) (hi := 2147483647) q (by decide +kernel)
    exact e ▸ hQ r h' p
theorem pe_59 {X : Scr} {dp : Nat} {h : Hp} {Q : Option Value → Hp → Prop} (a : Int32) (hD : cD k_59 ≤ dp) (hi : INVE h) (hQ : ∀ (r : Int32) h', INVE h' → Q (some (.int r)) h') : Ends X dp 68 0 (entL (mMaxL 68) [.ref 0, .int a]) [] h Q := by
  refine st_plainE (T := k_59) 59 (by rfl) (by decide +kernel) (by decide +kernel) (ρ := fun _ => a.toInt) hD hi ?_ ⟨⟨0, rfl, List.mem_singleton.mpr rfl⟩, ⟨a, rfl, by decide, by show a.toInt = a.toInt + 0; omega⟩, trivial⟩ rfl ?_
  · intro v q hq
    match v, hq with
    | 0, hq => cases hq; exact fI_ok a
    | v + 1, hq => cases hq
  · intro v h' p q
    obtain ⟨r, e, -⟩ := qp_int (lo := -2147483648) (hi := 2147483647) q (by decide +kernel)
    exact e ▸ hQ r h' p
theorem pe_145 {X : Scr} {dp : Nat} {h : Hp} {Q : Option Value → Hp → Prop} (hD : cD k_145 ≤ dp) (hi : INVE h) (hQ : ∀ (r : Int32) h', INVE h' → Q (some (.int r)) h') : Ends X dp 69 0 (entL (mMaxL 69) [.ref 0]) [] h Q := by
  refine st_plainE (T := k_145) 145 (by rfl) (by decide +kernel) (by decide +kernel) (ρ := fun _ => 0) hD hi ?_ ⟨⟨0, rfl, List.mem_singleton.mpr rfl⟩, trivial⟩ rfl ?_
  · intro v q hq
    match v, hq with
    | v, hq => cases hq
  · intro v h' p q
    obtain ⟨r, e, -⟩ := qp_int (lo := -2147483648) (hi := 2147483647) q (by decide +kernel)
    exact e ▸ hQ r h' p
theorem pe_148 {X : Scr} {dp : Nat} {h : Hp} {Q : Option Value → Hp → Prop} (a : Int32) (hD : cD k_148 ≤ dp) (hi : INVE h) (hQ : ∀ (r : Int32) h', INVE h' → Q (some (.int r)) h') : Ends X dp 70 0 (entL (mMaxL 70) [.ref 0, .int a]) [] h Q := by
  refine st_plainE (T := k_148) 148 (by rfl) (by decide +kernel) (by decide +kernel) (ρ := fun _ => a.toInt) hD hi ?_ ⟨⟨0, rfl, List.mem_singleton.mpr rfl⟩, ⟨a, rfl, by decide, by show a.toInt = a.toInt + 0; omega⟩, trivial⟩ rfl ?_
  · intro v q hq
    match v, hq with
    | 0, hq => cases hq; exact fI_ok a
    | v + 1, hq => cases hq
  · intro v h' p q
    obtain ⟨r, e, -⟩ := qp_int (lo := -2147483648) (hi := 2147483647) q (by decide +kernel)
    exact e ▸ hQ r h' p
theorem pe_159 {X : Scr} {dp : Nat} {h : Hp} {Q : Option Value → Hp → Prop} (a b : Int32) (hD : cD k_159 ≤ dp) (hi : INVE h) (hQ : ∀ (r : Int32) h', INVE h' → Q (some (.int r)) h') : Ends X dp 88 0 (entL (mMaxL 88) [.ref 0, .int a, .int b]) [] h Q := by
  refine st_plainE (T := k_159) 159 (by rfl) (by decide +kernel) (by decide +kernel) (ρ := fun v => if v = 0 then a.toInt else b.toInt) hD hi ?_ ⟨⟨0, rfl, List.mem_singleton.mpr rfl⟩, ⟨a, rfl, by decide, by show a.toInt = a.toInt + 0; omega⟩, ⟨b, rfl, by decide, by show b.toInt = b.toInt + 0; omega⟩, trivial⟩ rfl ?_
  · intro v q hq
    match v, hq with
    | 0, hq => cases hq; exact fI_ok a
    | 1, hq => cases hq; exact fI_ok b
    | v + 2, hq => cases hq
  · intro v h' p q
    obtain ⟨r, e, -⟩ := qp_int (lo := -2147483648) (hi := 2147483647) q (by decide +kernel)
    exact e ▸ hQ r h' p
theorem pe_211 {X : Scr} {dp : Nat} {h : Hp} {Q : Option Value → Hp → Prop} (a : Int32) (hD : cD k_211 ≤ dp) (hi : INVE h) (hQ : ∀ (r : Int32) h', INVE h' → Q (some (.int r)) h') : Ends X dp 94 0 (entL (mMaxL 94) [.ref 0, .int a]) [] h Q := by
  refine st_plainE (T := k_211) 211 (by rfl) (by decide +kernel) (by decide +kernel) (ρ := fun _ => a.toInt) hD hi ?_ ⟨⟨0, rfl, List.mem_singleton.mpr rfl⟩, ⟨a, rfl, by decide, by show a.toInt = a.toInt + 0; omega⟩, trivial⟩ rfl ?_
  · intro v q hq
    match v, hq with
    | 0, hq => cases hq; exact fI_ok a
    | v + 1, hq => cases hq
  · intro v h' p q
    obtain ⟨r, e, -⟩ := qp_int (lo := -2147483648) (hi := 2147483647) q (by decide +kernel)
    exact e ▸ hQ r h' p
theorem pe_228 {X : Scr} {dp : Nat} {h : Hp} {Q : Option Value → Hp → Prop} (a b c : Int32) (hD : cD k_228 ≤ dp) (hi : INVE h) (hQ : ∀ (r : Int32) h', INVE h' → Q (some (.int r)) h') : Ends X dp 115 0 (entL (mMaxL 115) [.ref 93, .int a, .int b, .int c]) [] h Q := by
  refine st_plainE (T := k_228) 228 (by rfl) (by decide +kernel) (by decide +kernel) (ρ := fun v => if v = 0 then a.toInt else if v = 1 then b.toInt else c.toInt) hD hi ?_ ⟨⟨93, rfl, List.mem_singleton.mpr rfl⟩, ⟨a, rfl, by decide, by show a.toInt = a.toInt + 0; omega⟩, ⟨b, rfl, by decide, by show b.toInt = b.toInt + 0; omega⟩, ⟨c, rfl, by decide, by show c.toInt = c.toInt + 0; omega⟩, trivial⟩ rfl ?_
  · intro v q hq
    match v, hq with
    | 0, hq => cases hq; exact fI_ok a
    | 1, hq => cases hq; exact fI_ok b
    | 2, hq => cases hq; exact fI_ok c
    | v + 3, hq => cases hq
  · intro v h' p q
    obtain ⟨r, e, -⟩ := qp_int (lo := -2147483648) (hi := 2147483647) q (by decide +kernel)
    exact e ▸ hQ r h' p
theorem pe_233 {X : Scr} {dp : Nat} {h : Hp} {Q : Option Value → Hp → Prop} (a : Int32) (hD : cD k_233 ≤ dp) (hi : INVE h) (hQ : ∀ (r : Int32) h', INVE h' → Q (some (.int r)) h') : Ends X dp 118 0 (entL (mMaxL 118) [.ref 93, .int a]) [] h Q := by
  refine st_plainE (T := k_233) 233 (by rfl) (by decide +kernel) (by decide +kernel) (ρ := fun _ => a.toInt) hD hi ?_ ⟨⟨93, rfl, List.mem_singleton.mpr rfl⟩, ⟨a, rfl, by decide, by show a.toInt = a.toInt + 0; omega⟩, trivial⟩ rfl ?_
  · intro v q hq
    match v, hq with
    | 0, hq => cases hq; exact fI_ok a
    | v + 1, hq => cases hq
  · intro v h' p q
    obtain ⟨r, e, -⟩ := qp_int (lo := -2147483648) (hi := 2147483647) q (by decide +kernel)
    exact e ▸ hQ r h' p
theorem pe_235 {X : Scr} {dp : Nat} {h : Hp} {Q : Option Value → Hp → Prop} (a : Int32) (hD : cD k_235 ≤ dp) (hi : INVE h) (hQ : ∀ (r : Int32) h', INVE h' → Q (some (.int r)) h') : Ends X dp 150 0 (entL (mMaxL 150) [.ref 93, .int a]) [] h Q := by
  refine st_plainE (T := k_235) 235 (by rfl) (by decide +kernel) (by decide +kernel) (ρ := fun _ => a.toInt) hD hi ?_ ⟨⟨93, rfl, List.mem_singleton.mpr rfl⟩, ⟨a, rfl, by decide, by show a.toInt = a.toInt + 0; omega⟩, trivial⟩ rfl ?_
  · intro v q hq
    match v, hq with
    | 0, hq => cases hq; exact fI_ok a
    | v + 1, hq => cases hq
  · intro v h' p q
    obtain ⟨r, e, -⟩ := qp_int (lo := -2147483648) (hi := 2147483647) q (by decide +kernel)
    exact e ▸ hQ r h' p
theorem pe_246 {X : Scr} {dp : Nat} {h : Hp} {Q : Option Value → Hp → Prop} (a b : Int32) (hD : cD k_246 ≤ dp) (hi : INVE h) (hQ : ∀ (r : Int32) h', INVE h' → Q (some (.int r)) h') : Ends X dp 183 0 (entL (mMaxL 183) [.ref 93, .int a, .int b]) [] h Q := by
  refine st_plainE (T := k_246) 246 (by rfl) (by decide +kernel) (by decide +kernel) (ρ := fun v => if v = 0 then a.toInt else b.toInt) hD hi ?_ ⟨⟨93, rfl, List.mem_singleton.mpr rfl⟩, ⟨a, rfl, by decide, by show a.toInt = a.toInt + 0; omega⟩, ⟨b, rfl, by decide, by show b.toInt = b.toInt + 0; omega⟩, trivial⟩ rfl ?_
  · intro v q hq
    match v, hq with
    | 0, hq => cases hq; exact fI_ok a
    | 1, hq => cases hq; exact fI_ok b
    | v + 2, hq => cases hq
  · intro v h' p q
    obtain ⟨r, e, -⟩ := qp_int (lo := -2147483648) (hi := 2147483647) q (by decide +kernel)
    exact e ▸ hQ r h' p
theorem pe_262 {X : Scr} {dp : Nat} {h : Hp} {Q : Option Value → Hp → Prop} (a : Int32) (hD : cD k_262 ≤ dp) (hi : INVE h) (hQ : ∀ (r : Int32) h', INVE h' → Q (some (.int r)) h') : Ends X dp 197 0 (entL (mMaxL 197) [.ref 93, .int a]) [] h Q := by
  refine st_plainE (T := k_262) 262 (by rfl) (by decide +kernel) (by decide +kernel) (ρ := fun _ => a.toInt) hD hi ?_ ⟨⟨93, rfl, List.mem_singleton.mpr rfl⟩, ⟨a, rfl, by decide, by show a.toInt = a.toInt + 0; omega⟩, trivial⟩ rfl ?_
  · intro v q hq
    match v, hq with
    | 0, hq => cases hq; exact fI_ok a
    | v + 1, hq => cases hq
  · intro v h' p q
    obtain ⟨r, e, -⟩ := qp_int (lo := -2147483648) (hi := 2147483647) q (by decide +kernel)
    exact e ▸ hQ r h' p
theorem pe_293 {X : Scr} {dp : Nat} {h : Hp} {Q : Option Value → Hp → Prop} (a b : Int32) (hD : cD k_293 ≤ dp) (hi : INVE h) (hQ : ∀ (r : Int32) h', INVE h' → Q (some (.int r)) h') : Ends X dp 64 0 (entL (mMaxL 64) [.ref 0, .int a, .int b]) [] h Q := by
  refine st_plainE (T := k_293) 293 (by rfl) (by decide +kernel) (by decide +kernel) (ρ := fun v => if v = 0 then a.toInt else b.toInt) hD hi ?_ ⟨⟨0, rfl, List.mem_singleton.mpr rfl⟩, ⟨a, rfl, by decide, by show a.toInt = a.toInt + 0; omega⟩, ⟨b, rfl, by decide, by show b.toInt = b.toInt + 0; omega⟩, trivial⟩ rfl ?_
  · intro v q hq
    match v, hq with
    | 0, hq => cases hq; exact fI_ok a
    | 1, hq => cases hq; exact fI_ok b
    | v + 2, hq => cases hq
  · intro v h' p q
    obtain ⟨r, e, -⟩ := qp_int (lo := -2147483648) (hi := 2147483647) q (by decide +kernel)
    exact e ▸ hQ r h' p
theorem pe_294 {X : Scr} {dp : Nat} {h : Hp} {Q : Option Value → Hp → Prop} (hD : cD k_294 ≤ dp) (hi : INVE h) (hQ : ∀ (r : Int32) h', INVE h' → Q (some (.int r)) h') : Ends X dp 71 0 (entL (mMaxL 71) [.ref 0]) [] h Q := by
  refine st_plainE (T := k_294) 294 (by rfl) (by decide +kernel) (by decide +kernel) (ρ := fun _ => 0) hD hi ?_ ⟨⟨0, rfl, List.mem_singleton.mpr rfl⟩, trivial⟩ rfl ?_
  · intro v q hq
    match v, hq with
    | v, hq => cases hq
  · intro v h' p q
    obtain ⟨r, e, -⟩ := qp_int (lo := -2147483648) (hi := 2147483647) q (by decide +kernel)
    exact e ▸ hQ r h' p
theorem pe_296 {X : Scr} {dp : Nat} {h : Hp} {Q : Option Value → Hp → Prop} (a b : Int32) (hD : cD k_296 ≤ dp) (hi : INVE h) (hQ : ∀ (r : Int32) h', INVE h' → Q (some (.int r)) h') : Ends X dp 72 0 (entL (mMaxL 72) [.ref 0, .int a, .int b]) [] h Q := by
  refine st_plainE (T := k_296) 296 (by rfl) (by decide +kernel) (by decide +kernel) (ρ := fun v => if v = 0 then a.toInt else b.toInt) hD hi ?_ ⟨⟨0, rfl, List.mem_singleton.mpr rfl⟩, ⟨a, rfl, by decide, by show a.toInt = a.toInt + 0; omega⟩, ⟨b, rfl, by decide, by show b.toInt = b.toInt + 0; omega⟩, trivial⟩ rfl ?_
  · intro v q hq
    match v, hq with
    | 0, hq => cases hq; exact fI_ok a
    | 1, hq => cases hq; exact fI_ok b
    | v + 2, hq => cases hq
  · intro v h' p q
    obtain ⟨r, e, -⟩ := qp_int (lo := -2147483648) (hi := 2147483647) q (by decide +kernel)
    exact e ▸ hQ r h' p
theorem pe_297 {X : Scr} {dp : Nat} {h : Hp} {Q : Option Value → Hp → Prop} (a : Int32) (hD : cD k_297 ≤ dp) (hi : INVE h) (hQ : ∀ (r : Int32) h', INVE h' → Q (some (.int r)) h') : Ends X dp 73 0 (entL (mMaxL 73) [.ref 0, .int a]) [] h Q := by
  refine st_plainE (T := k_297) 297 (by rfl) (by decide +kernel) (by decide +kernel) (ρ := fun _ => a.toInt) hD hi ?_ ⟨⟨0, rfl, List.mem_singleton.mpr rfl⟩, ⟨a, rfl, by decide, by show a.toInt = a.toInt + 0; omega⟩, trivial⟩ rfl ?_
  · intro v q hq
    match v, hq with
    | 0, hq => cases hq; exact fI_ok a
    | v + 1, hq => cases hq
  · intro v h' p q
    obtain ⟨r, e, -⟩ := qp_int (lo := -2147483648) (hi := 2147483647) q (by decide +kernel)
    exact e ▸ hQ r h' p
theorem pe_298 {X : Scr} {dp : Nat} {h : Hp} {Q : Option Value → Hp → Prop} (a : Int32) (hD : cD k_298 ≤ dp) (hi : INVE h) (hQ : ∀ (r : Int32) h', INVE h' → Q (some (.int r)) h') : Ends X dp 74 0 (entL (mMaxL 74) [.ref 0, .int a]) [] h Q := by
  refine st_plainE (T := k_298) 298 (by rfl) (by decide +kernel) (by decide +kernel) (ρ := fun _ => a.toInt) hD hi ?_ ⟨⟨0, rfl, List.mem_singleton.mpr rfl⟩, ⟨a, rfl, by decide, by show a.toInt = a.toInt + 0; omega⟩, trivial⟩ rfl ?_
  · intro v q hq
    match v, hq with
    | 0, hq => cases hq; exact fI_ok a
    | v + 1, hq => cases hq
  · intro v h' p q
    obtain ⟨r, e, -⟩ := qp_int (lo := -2147483648) (hi := 2147483647) q (by decide +kernel)
    exact e ▸ hQ r h' p
theorem pe_300 {X : Scr} {dp : Nat} {h : Hp} {Q : Option Value → Hp → Prop} (a b : Int32) (hD : cD k_300 ≤ dp) (hi : INVE h) (hQ : ∀ (r : Int32) h', INVE h' → Q (some (.int r)) h') : Ends X dp 75 0 (entL (mMaxL 75) [.ref 0, .int a, .int b]) [] h Q := by
  refine st_plainE (T := k_300) 300 (by rfl) (by decide +kernel) (by decide +kernel) (ρ := fun v => if v = 0 then a.toInt else b.toInt) hD hi ?_ ⟨⟨0, rfl, List.mem_singleton.mpr rfl⟩, ⟨a, rfl, by decide, by show a.toInt = a.toInt + 0; omega⟩, ⟨b, rfl, by decide, by show b.toInt = b.toInt + 0; omega⟩, trivial⟩ rfl ?_
  · intro v q hq
    match v, hq with
    | 0, hq => cases hq; exact fI_ok a
    | 1, hq => cases hq; exact fI_ok b
    | v + 2, hq => cases hq
  · intro v h' p q
    obtain ⟨r, e, -⟩ := qp_int (lo := -2147483648) (hi := 2147483647) q (by decide +kernel)
    exact e ▸ hQ r h' p
theorem pe_301 {X : Scr} {dp : Nat} {h : Hp} {Q : Option Value → Hp → Prop} (a : Int32) (hD : cD k_301 ≤ dp) (hi : INVE h) (hQ : ∀ (r : Int32) h', INVE h' → Q (some (.int r)) h') : Ends X dp 76 0 (entL (mMaxL 76) [.ref 0, .int a]) [] h Q := by
  refine st_plainE (T := k_301) 301 (by rfl) (by decide +kernel) (by decide +kernel) (ρ := fun _ => a.toInt) hD hi ?_ ⟨⟨0, rfl, List.mem_singleton.mpr rfl⟩, ⟨a, rfl, by decide, by show a.toInt = a.toInt + 0; omega⟩, trivial⟩ rfl ?_
  · intro v q hq
    match v, hq with
    | 0, hq => cases hq; exact fI_ok a
    | v + 1, hq => cases hq
  · intro v h' p q
    obtain ⟨r, e, -⟩ := qp_int (lo := -2147483648) (hi := 2147483647) q (by decide +kernel)
    exact e ▸ hQ r h' p
theorem pe_302 {X : Scr} {dp : Nat} {h : Hp} {Q : Option Value → Hp → Prop} (a : Int32) (hD : cD k_302 ≤ dp) (hi : INVE h) (hQ : ∀ (r : Int32) h', INVE h' → Q (some (.int r)) h') : Ends X dp 77 0 (entL (mMaxL 77) [.ref 0, .int a]) [] h Q := by
  refine st_plainE (T := k_302) 302 (by rfl) (by decide +kernel) (by decide +kernel) (ρ := fun _ => a.toInt) hD hi ?_ ⟨⟨0, rfl, List.mem_singleton.mpr rfl⟩, ⟨a, rfl, by decide, by show a.toInt = a.toInt + 0; omega⟩, trivial⟩ rfl ?_
  · intro v q hq
    match v, hq with
    | 0, hq => cases hq; exact fI_ok a
    | v + 1, hq => cases hq
  · intro v h' p q
    obtain ⟨r, e, -⟩ := qp_int (lo := -2147483648) (hi := 2147483647) q (by decide +kernel)
    exact e ▸ hQ r h' p
theorem pe_303 {X : Scr} {dp : Nat} {h : Hp} {Q : Option Value → Hp → Prop} (hD : cD k_303 ≤ dp) (hi : INVE h) (hQ : ∀ (r : Int32) h', INVE h' → Q (some (.int r)) h') : Ends X dp 78 0 (entL (mMaxL 78) [.ref 0]) [] h Q := by
  refine st_plainE (T := k_303) 303 (by rfl) (by decide +kernel) (by decide +kernel) (ρ := fun _ => 0) hD hi ?_ ⟨⟨0, rfl, List.mem_singleton.mpr rfl⟩, trivial⟩ rfl ?_
  · intro v q hq
    match v, hq with
    | v, hq => cases hq
  · intro v h' p q
    obtain ⟨r, e, -⟩ := qp_int (lo := -2147483648) (hi := 2147483647) q (by decide +kernel)
    exact e ▸ hQ r h' p
theorem pe_304 {X : Scr} {dp : Nat} {h : Hp} {Q : Option Value → Hp → Prop} (a : Int32) (hD : cD k_304 ≤ dp) (hi : INVE h) (hQ : ∀ (r : Int32) h', INVE h' → Q (some (.int r)) h') : Ends X dp 79 0 (entL (mMaxL 79) [.ref 0, .int a]) [] h Q := by
  refine st_plainE (T := k_304) 304 (by rfl) (by decide +kernel) (by decide +kernel) (ρ := fun _ => a.toInt) hD hi ?_ ⟨⟨0, rfl, List.mem_singleton.mpr rfl⟩, ⟨a, rfl, by decide, by show a.toInt = a.toInt + 0; omega⟩, trivial⟩ rfl ?_
  · intro v q hq
    match v, hq with
    | 0, hq => cases hq; exact fI_ok a
    | v + 1, hq => cases hq
  · intro v h' p q
    obtain ⟨r, e, -⟩ := qp_int (lo := -2147483648) (hi := 2147483647) q (by decide +kernel)
    exact e ▸ hQ r h' p
theorem pe_306 {X : Scr} {dp : Nat} {h : Hp} {Q : Option Value → Hp → Prop} (a : Int32) (hD : cD k_306 ≤ dp) (hi : INVE h) (hQ : ∀ (r : Int32) h', INVE h' → Q (some (.int r)) h') : Ends X dp 80 0 (entL (mMaxL 80) [.ref 0, .int a]) [] h Q := by
  refine st_plainE (T := k_306) 306 (by rfl) (by decide +kernel) (by decide +kernel) (ρ := fun _ => a.toInt) hD hi ?_ ⟨⟨0, rfl, List.mem_singleton.mpr rfl⟩, ⟨a, rfl, by decide, by show a.toInt = a.toInt + 0; omega⟩, trivial⟩ rfl ?_
  · intro v q hq
    match v, hq with
    | 0, hq => cases hq; exact fI_ok a
    | v + 1, hq => cases hq
  · intro v h' p q
    obtain ⟨r, e, -⟩ := qp_int (lo := -2147483648) (hi := 2147483647) q (by decide +kernel)
    exact e ▸ hQ r h' p
theorem pe_307 {X : Scr} {dp : Nat} {h : Hp} {Q : Option Value → Hp → Prop} (a b : Int32) (hD : cD k_307 ≤ dp) (hi : INVE h) (hQ : ∀ (r : Int32) h', INVE h' → Q (some (.int r)) h') : Ends X dp 81 0 (entL (mMaxL 81) [.ref 0, .int a, .int b]) [] h Q := by
  refine st_plainE (T := k_307) 307 (by rfl) (by decide +kernel) (by decide +kernel) (ρ := fun v => if v = 0 then a.toInt else b.toInt) hD hi ?_ ⟨⟨0, rfl, List.mem_singleton.mpr rfl⟩, ⟨a, rfl, by decide, by show a.toInt = a.toInt + 0; omega⟩, ⟨b, rfl, by decide, by show b.toInt = b.toInt + 0; omega⟩, trivial⟩ rfl ?_
  · intro v q hq
    match v, hq with
    | 0, hq => cases hq; exact fI_ok a
    | 1, hq => cases hq; exact fI_ok b
    | v + 2, hq => cases hq
  · intro v h' p q
    obtain ⟨r, e, -⟩ := qp_int (lo := -2147483648) (hi := 2147483647) q (by decide +kernel)
    exact e ▸ hQ r h' p
theorem pe_308 {X : Scr} {dp : Nat} {h : Hp} {Q : Option Value → Hp → Prop} (a : Int32) (hD : cD k_308 ≤ dp) (hi : INVE h) (hQ : ∀ (r : Int32) h', INVE h' → Q (some (.int r)) h') : Ends X dp 83 0 (entL (mMaxL 83) [.ref 0, .int a]) [] h Q := by
  refine st_plainE (T := k_308) 308 (by rfl) (by decide +kernel) (by decide +kernel) (ρ := fun _ => a.toInt) hD hi ?_ ⟨⟨0, rfl, List.mem_singleton.mpr rfl⟩, ⟨a, rfl, by decide, by show a.toInt = a.toInt + 0; omega⟩, trivial⟩ rfl ?_
  · intro v q hq
    match v, hq with
    | 0, hq => cases hq; exact fI_ok a
    | v + 1, hq => cases hq
  · intro v h' p q
    obtain ⟨r, e, -⟩ := qp_int (lo := -2147483648) (hi := 2147483647) q (by decide +kernel)
    exact e ▸ hQ r h' p
theorem pe_309 {X : Scr} {dp : Nat} {h : Hp} {Q : Option Value → Hp → Prop} (a b c : Int32) (hD : cD k_309 ≤ dp) (hi : INVE h) (hQ : ∀ (r : Int64) h', INVE h' → Q (some (.long r)) h') : Ends X dp 84 0 (entL (mMaxL 84) [.ref 0, .int a, .int b, .int c]) [] h Q := by
  refine st_plainE (T := k_309) 309 (by rfl) (by decide +kernel) (by decide +kernel) (ρ := fun v => if v = 0 then a.toInt else if v = 1 then b.toInt else c.toInt) hD hi ?_ ⟨⟨0, rfl, List.mem_singleton.mpr rfl⟩, ⟨a, rfl, by decide, by show a.toInt = a.toInt + 0; omega⟩, ⟨b, rfl, by decide, by show b.toInt = b.toInt + 0; omega⟩, ⟨c, rfl, by decide, by show c.toInt = c.toInt + 0; omega⟩, trivial⟩ rfl ?_
  · intro v q hq
    match v, hq with
    | 0, hq => cases hq; exact fI_ok a
    | 1, hq => cases hq; exact fI_ok b
    | 2, hq => cases hq; exact fI_ok c
    | v + 3, hq => cases hq
  · intro v h' p q
    obtain ⟨r, e⟩ := qp_lng q (by decide +kernel)
    exact e ▸ hQ r h' p
theorem pe_310 {X : Scr} {dp : Nat} {h : Hp} {Q : Option Value → Hp → Prop} (a b : Int32) (hD : cD k_310 ≤ dp) (hi : INVE h) (hQ : ∀ (r : Int64) h', INVE h' → Q (some (.long r)) h') : Ends X dp 85 0 (entL (mMaxL 85) [.ref 0, .int a, .int b]) [] h Q := by
  refine st_plainE (T := k_310) 310 (by rfl) (by decide +kernel) (by decide +kernel) (ρ := fun v => if v = 0 then a.toInt else b.toInt) hD hi ?_ ⟨⟨0, rfl, List.mem_singleton.mpr rfl⟩, ⟨a, rfl, by decide, by show a.toInt = a.toInt + 0; omega⟩, ⟨b, rfl, by decide, by show b.toInt = b.toInt + 0; omega⟩, trivial⟩ rfl ?_
  · intro v q hq
    match v, hq with
    | 0, hq => cases hq; exact fI_ok a
    | 1, hq => cases hq; exact fI_ok b
    | v + 2, hq => cases hq
  · intro v h' p q
    obtain ⟨r, e⟩ := qp_lng q (by decide +kernel)
    exact e ▸ hQ r h' p
theorem pe_311 {X : Scr} {dp : Nat} {h : Hp} {Q : Option Value → Hp → Prop} (hD : cD k_311 ≤ dp) (hi : INVE h) (hQ : ∀ (r : Int32) h', INVE h' → Q (some (.int r)) h') : Ends X dp 87 0 (entL (mMaxL 87) [.ref 0]) [] h Q := by
  refine st_plainE (T := k_311) 311 (by rfl) (by decide +kernel) (by decide +kernel) (ρ := fun _ => 0) hD hi ?_ ⟨⟨0, rfl, List.mem_singleton.mpr rfl⟩, trivial⟩ rfl ?_
  · intro v q hq
    match v, hq with
    | v, hq => cases hq
  · intro v h' p q
    obtain ⟨r, e, -⟩ := qp_int (lo := -2147483648) (hi := 2147483647) q (by decide +kernel)
    exact e ▸ hQ r h' p
theorem pe_312 {X : Scr} {dp : Nat} {h : Hp} {Q : Option Value → Hp → Prop} (a b : Int32) (hD : cD k_312 ≤ dp) (hi : INVE h) (hQ : ∀ (r : Int32) h', INVE h' → Q (some (.int r)) h') : Ends X dp 149 0 (entL (mMaxL 149) [.ref 93, .int a, .int b]) [] h Q := by
  refine st_plainE (T := k_312) 312 (by rfl) (by decide +kernel) (by decide +kernel) (ρ := fun v => if v = 0 then a.toInt else b.toInt) hD hi ?_ ⟨⟨93, rfl, List.mem_singleton.mpr rfl⟩, ⟨a, rfl, by decide, by show a.toInt = a.toInt + 0; omega⟩, ⟨b, rfl, by decide, by show b.toInt = b.toInt + 0; omega⟩, trivial⟩ rfl ?_
  · intro v q hq
    match v, hq with
    | 0, hq => cases hq; exact fI_ok a
    | 1, hq => cases hq; exact fI_ok b
    | v + 2, hq => cases hq
  · intro v h' p q
    obtain ⟨r, e, -⟩ := qp_int (lo := -2147483648) (hi := 2147483647) q (by decide +kernel)
    exact e ▸ hQ r h' p
theorem pe_317 {X : Scr} {dp : Nat} {h : Hp} {Q : Option Value → Hp → Prop} (a : Int32) (hD : cD k_317 ≤ dp) (hi : INVE h) (hQ : ∀ (r : Int32) h', INVE h' → Q (some (.int r)) h') : Ends X dp 165 0 (entL (mMaxL 165) [.ref 93, .int a]) [] h Q := by
  refine st_plainE (T := k_317) 317 (by rfl) (by decide +kernel) (by decide +kernel) (ρ := fun _ => a.toInt) hD hi ?_ ⟨⟨93, rfl, List.mem_singleton.mpr rfl⟩, ⟨a, rfl, by decide, by show a.toInt = a.toInt + 0; omega⟩, trivial⟩ rfl ?_
  · intro v q hq
    match v, hq with
    | 0, hq => cases hq; exact fI_ok a
    | v + 1, hq => cases hq
  · intro v h' p q
    obtain ⟨r, e, -⟩ := qp_int (lo := -2147483648) (hi := 2147483647) q (by decide +kernel)
    exact e ▸ hQ r h' p
theorem pe_318 {X : Scr} {dp : Nat} {h : Hp} {Q : Option Value → Hp → Prop} (a b : Int32) (hD : cD k_318 ≤ dp) (hi : INVE h) (hQ : ∀ (r : Int32) h', INVE h' → Q (some (.int r)) h') : Ends X dp 166 0 (entL (mMaxL 166) [.ref 93, .int a, .int b]) [] h Q := by
  refine st_plainE (T := k_318) 318 (by rfl) (by decide +kernel) (by decide +kernel) (ρ := fun v => if v = 0 then a.toInt else b.toInt) hD hi ?_ ⟨⟨93, rfl, List.mem_singleton.mpr rfl⟩, ⟨a, rfl, by decide, by show a.toInt = a.toInt + 0; omega⟩, ⟨b, rfl, by decide, by show b.toInt = b.toInt + 0; omega⟩, trivial⟩ rfl ?_
  · intro v q hq
    match v, hq with
    | 0, hq => cases hq; exact fI_ok a
    | 1, hq => cases hq; exact fI_ok b
    | v + 2, hq => cases hq
  · intro v h' p q
    obtain ⟨r, e, -⟩ := qp_int (lo := -2147483648) (hi := 2147483647) q (by decide +kernel)
    exact e ▸ hQ r h' p
theorem pe_319 {X : Scr} {dp : Nat} {h : Hp} {Q : Option Value → Hp → Prop} (a : Int32) (hD : cD k_319 ≤ dp) (hi : INVE h) (hQ : ∀ (r : Int32) h', INVE h' → Q (some (.int r)) h') : Ends X dp 167 0 (entL (mMaxL 167) [.ref 93, .int a]) [] h Q := by
  refine st_plainE (T := k_319) 319 (by rfl) (by decide +kernel) (by decide +kernel) (ρ := fun _ => a.toInt) hD hi ?_ ⟨⟨93, rfl, List.mem_singleton.mpr rfl⟩, ⟨a, rfl, by decide, by show a.toInt = a.toInt + 0; omega⟩, trivial⟩ rfl ?_
  · intro v q hq
    match v, hq with
    | 0, hq => cases hq; exact fI_ok a
    | v + 1, hq => cases hq
  · intro v h' p q
    obtain ⟨r, e, -⟩ := qp_int (lo := -2147483648) (hi := 2147483647) q (by decide +kernel)
    exact e ▸ hQ r h' p
theorem pe_320 {X : Scr} {dp : Nat} {h : Hp} {Q : Option Value → Hp → Prop} (a : Int32) (hD : cD k_320 ≤ dp) (hi : INVE h) (hQ : ∀ (r : Int32) h', INVE h' → Q (some (.int r)) h') : Ends X dp 168 0 (entL (mMaxL 168) [.ref 93, .int a]) [] h Q := by
  refine st_plainE (T := k_320) 320 (by rfl) (by decide +kernel) (by decide +kernel) (ρ := fun _ => a.toInt) hD hi ?_ ⟨⟨93, rfl, List.mem_singleton.mpr rfl⟩, ⟨a, rfl, by decide, by show a.toInt = a.toInt + 0; omega⟩, trivial⟩ rfl ?_
  · intro v q hq
    match v, hq with
    | 0, hq => cases hq; exact fI_ok a
    | v + 1, hq => cases hq
  · intro v h' p q
    obtain ⟨r, e, -⟩ := qp_int (lo := -2147483648) (hi := 2147483647) q (by decide +kernel)
    exact e ▸ hQ r h' p
theorem pe_321 {X : Scr} {dp : Nat} {h : Hp} {Q : Option Value → Hp → Prop} (hD : cD k_321 ≤ dp) (hi : INVE h) (hQ : ∀ (r : Int32) h', INVE h' → Q (some (.int r)) h') : Ends X dp 169 0 (entL (mMaxL 169) [.ref 93]) [] h Q := by
  refine st_plainE (T := k_321) 321 (by rfl) (by decide +kernel) (by decide +kernel) (ρ := fun _ => 0) hD hi ?_ ⟨⟨93, rfl, List.mem_singleton.mpr rfl⟩, trivial⟩ rfl ?_
  · intro v q hq
    match v, hq with
    | v, hq => cases hq
  · intro v h' p q
    obtain ⟨r, e, -⟩ := qp_int (lo := -2147483648) (hi := 2147483647) q (by decide +kernel)
    exact e ▸ hQ r h' p
theorem pe_323 {X : Scr} {dp : Nat} {h : Hp} {Q : Option Value → Hp → Prop} (a : Int32) (hD : cD k_323 ≤ dp) (hi : INVE h) (hQ : ∀ (r : Int32) h', INVE h' → Q (some (.int r)) h') : Ends X dp 176 0 (entL (mMaxL 176) [.ref 93, .int a]) [] h Q := by
  refine st_plainE (T := k_323) 323 (by rfl) (by decide +kernel) (by decide +kernel) (ρ := fun _ => a.toInt) hD hi ?_ ⟨⟨93, rfl, List.mem_singleton.mpr rfl⟩, ⟨a, rfl, by decide, by show a.toInt = a.toInt + 0; omega⟩, trivial⟩ rfl ?_
  · intro v q hq
    match v, hq with
    | 0, hq => cases hq; exact fI_ok a
    | v + 1, hq => cases hq
  · intro v h' p q
    obtain ⟨r, e, -⟩ := qp_int (lo := -2147483648) (hi := 2147483647) q (by decide +kernel)
    exact e ▸ hQ r h' p
theorem pe_325 {X : Scr} {dp : Nat} {h : Hp} {Q : Option Value → Hp → Prop} (a b c : Int32) (hD : cD k_325 ≤ dp) (hi : INVE h) (hQ : ∀ (r : Int64) h', INVE h' → Q (some (.long r)) h') : Ends X dp 179 0 (entL (mMaxL 179) [.ref 93, .int a, .int b, .int c]) [] h Q := by
  refine st_plainE (T := k_325) 325 (by rfl) (by decide +kernel) (by decide +kernel) (ρ := fun v => if v = 0 then a.toInt else if v = 1 then b.toInt else c.toInt) hD hi ?_ ⟨⟨93, rfl, List.mem_singleton.mpr rfl⟩, ⟨a, rfl, by decide, by show a.toInt = a.toInt + 0; omega⟩, ⟨b, rfl, by decide, by show b.toInt = b.toInt + 0; omega⟩, ⟨c, rfl, by decide, by show c.toInt = c.toInt + 0; omega⟩, trivial⟩ rfl ?_
  · intro v q hq
    match v, hq with
    | 0, hq => cases hq; exact fI_ok a
    | 1, hq => cases hq; exact fI_ok b
    | 2, hq => cases hq; exact fI_ok c
    | v + 3, hq => cases hq
  · intro v h' p q
    obtain ⟨r, e⟩ := qp_lng q (by decide +kernel)
    exact e ▸ hQ r h' p
theorem pe_56 {X : Scr} {dp : Nat} {h : Hp} {Q : Option Value → Hp → Prop} (a b : Int32) (h1 : 0 ≤ b.toInt) (h2 : b.toInt ≤ 1) (hD : cD k_56 ≤ dp) (hi : INVE h) (hQ : ∀ (r : Int32) h', INVE h' → Q (some (.int r)) h') : Ends X dp 66 0 (entL (mMaxL 66) [.ref 0, .int a, .int b]) [] h Q := by
  refine st_plainE (T := k_56) 56 (by rfl) (by decide +kernel) (by decide +kernel) (ρ := fun v => if v = 0 then a.toInt else b.toInt) hD hi (bo2 h1 h2) ⟨⟨0, rfl, List.mem_singleton.mpr rfl⟩, ⟨a, rfl, by decide, by show a.toInt = a.toInt + 0; omega⟩, ⟨b, rfl, by decide, by show b.toInt = b.toInt + 0; omega⟩, trivial⟩ rfl ?_
  intro v h' p q
  obtain ⟨r, e, -⟩ := qp_int (lo := -2147483648) (hi := 2147483647) q (by decide +kernel)
  exact e ▸ hQ r h' p
theorem pe_229 {X : Scr} {dp : Nat} {h : Hp} {Q : Option Value → Hp → Prop} (a b : Int32) (h1 : 0 ≤ b.toInt) (h2 : b.toInt ≤ 1) (hD : cD k_229 ≤ dp) (hi : INVE h) (hQ : ∀ (r : Int32) h', INVE h' → Q (some (.int r)) h') : Ends X dp 116 0 (entL (mMaxL 116) [.ref 93, .int a, .int b]) [] h Q := by
  refine st_plainE (T := k_229) 229 (by rfl) (by decide +kernel) (by decide +kernel) (ρ := fun v => if v = 0 then a.toInt else b.toInt) hD hi (bo2 h1 h2) ⟨⟨93, rfl, List.mem_singleton.mpr rfl⟩, ⟨a, rfl, by decide, by show a.toInt = a.toInt + 0; omega⟩, ⟨b, rfl, by decide, by show b.toInt = b.toInt + 0; omega⟩, trivial⟩ rfl ?_
  intro v h' p q
  obtain ⟨r, e, -⟩ := qp_int (lo := -2147483648) (hi := 2147483647) q (by decide +kernel)
  exact e ▸ hQ r h' p
theorem shout_e {X : Scr} {dp : Nat} {h : Hp} {Q : Option Value → Hp → Prop} (hD : cD k_314 ≤ dp) (hi : INVE h) (hQ : ∀ (r : Int32) h', INVE h' → Q (some (.int r)) h') : Ends X dp 159 0 (entL (mMaxL 159) [.ref 93]) [] h Q := by
  refine st_shoutE (T := k_314) 314 (by rfl) (by decide +kernel) (by decide +kernel) (by decide +kernel) (ρ := fun _ => (h.2.1 93 1).toInt) hD hi ?_ ⟨⟨93, rfl, List.mem_singleton.mpr rfl⟩, trivial⟩ ?_ ?_
  · intro v q hq
    match v, hq with
    | 0, hq => cases hq; exact ⟨lo931 hi.1, hi.1.2.2.2.1⟩
    | v + 1, hq => cases hq
  · intro q hq
    cases hq with
    | head => exact ⟨⟨by decide, by show (h.2.1 93 1).toInt = (h.2.1 93 1).toInt + 0; omega⟩, cls93⟩
    | tail _ t => cases t
  · intro v h' a b
    obtain ⟨r, e, -⟩ := qp_int (lo := -3) (hi := 127) b (by decide +kernel)
    exact e ▸ hQ r h' a
theorem looked_e {X : Scr} {dp : Nat} {h : Hp} {Q : Option Value → Hp → Prop} (hD : cD k_327 ≤ dp) (hi : INVE h) (hQ : ∀ (r : Int32) h', INVE h' → Q (some (.int r)) h') : Ends X dp 182 0 (entL (mMaxL 182) [.ref 93]) [] h Q := by
  refine st_shoutE (T := k_327) 327 (by rfl) (by decide +kernel) (by decide +kernel) (by decide +kernel) (ρ := fun _ => (h.2.1 93 1).toInt) hD hi ?_ ⟨⟨93, rfl, List.mem_singleton.mpr rfl⟩, trivial⟩ ?_ ?_
  · intro v q hq
    match v, hq with
    | 0, hq => cases hq; exact ⟨lo931 hi.1, hi.1.2.2.2.1⟩
    | v + 1, hq => cases hq
  · intro q hq
    cases hq with
    | head => exact ⟨⟨by decide, by show (h.2.1 93 1).toInt = (h.2.1 93 1).toInt + 0; omega⟩, cls93⟩
    | tail _ t => cases t
  · intro v h' a b
    obtain ⟨r, e, -⟩ := qp_int (lo := -100) (hi := 127) b (by decide +kernel)
    exact e ▸ hQ r h' a
theorem on_e {X : Scr} {dp : Nat} {h : Hp} {Q : Option Value → Hp → Prop} (a b : Int32) (hD : cD k_315 ≤ dp) (hi : INVE h) (hQ : ∀ (r : Int32) h', INVE h' → Q (some (.int r)) h') : Ends X dp 162 0 (entL (mMaxL 162) [.ref 93, .int a, .int b]) [] h Q := by
  refine st_shoutE (T := k_315) 315 (by rfl) (by decide +kernel) (by decide +kernel) (by decide +kernel) (ρ := fun v => if v = 0 then a.toInt else if v = 1 then b.toInt else (h.2.1 93 1).toInt) hD hi (bo3 (lo931 hi.1) hi.1.2.2.2.1) ⟨⟨93, rfl, List.mem_singleton.mpr rfl⟩, ⟨a, rfl, by decide, by show a.toInt = a.toInt + 0; omega⟩, ⟨b, rfl, by decide, by show b.toInt = b.toInt + 0; omega⟩, trivial⟩ ?_ ?_
  · intro q hq
    cases hq with
    | head => exact ⟨⟨by decide, by show (h.2.1 93 1).toInt = (h.2.1 93 1).toInt + 0; omega⟩, cls93⟩
    | tail _ t => cases t
  · intro v h' a b
    obtain ⟨r, e, -⟩ := qp_int (lo := -2) (hi := 960) b (by decide +kernel)
    exact e ▸ hQ r h' a
theorem last_e {X : Scr} {dp : Nat} {h : Hp} {Q : Option Value → Hp → Prop} (a : Int32) (hD : cD k_316 ≤ dp) (hi : INVE h) (hQ : ∀ (r : Int32) h', INVE h' → Q (some (.int r)) h') : Ends X dp 164 0 (entL (mMaxL 164) [.ref 93, .int a]) [] h Q := by
  refine st_shoutE (T := k_316) 316 (by rfl) (by decide +kernel) (by decide +kernel) (by decide +kernel) (ρ := fun v => if v = 0 then a.toInt else (h.2.1 93 1).toInt) hD hi ?_ ⟨⟨93, rfl, List.mem_singleton.mpr rfl⟩, ⟨a, rfl, by decide, by show a.toInt = a.toInt + 0; omega⟩, trivial⟩ ?_ ?_
  · intro v q hq
    match v, hq with
    | 0, hq => cases hq; exact i32r a
    | 1, hq => cases hq; exact ⟨lo931 hi.1, hi.1.2.2.2.1⟩
    | v + 2, hq => cases hq
  · intro q hq
    cases hq with
    | head => exact ⟨⟨by decide, by show (h.2.1 93 1).toInt = (h.2.1 93 1).toInt + 0; omega⟩, cls93⟩
    | tail _ t => cases t
  · intro v h' a b
    obtain ⟨r, e, -⟩ := qp_int (lo := -5) (hi := 30) b (by decide +kernel)
    exact e ▸ hQ r h' a
theorem mean_e {X : Scr} {dp : Nat} {h : Hp} {Q : Option Value → Hp → Prop} (a b : Int32) (hD : cD k_326 ≤ dp) (hi : INVE h) (hQ : ∀ (r : Int64) h', INVE h' → Q (some (.long r)) h') : Ends X dp 180 0 (entL (mMaxL 180) [.ref 93, .int a, .int b]) [] h Q := by
  refine st_shoutE (T := k_326) 326 (by rfl) (by decide +kernel) (by decide +kernel) (by decide +kernel) (ρ := fun v => if v = 0 then a.toInt else if v = 1 then b.toInt else (h.2.1 93 1).toInt) hD hi (bo3 (lo931 hi.1) hi.1.2.2.2.1) ⟨⟨93, rfl, List.mem_singleton.mpr rfl⟩, ⟨a, rfl, by decide, by show a.toInt = a.toInt + 0; omega⟩, ⟨b, rfl, by decide, by show b.toInt = b.toInt + 0; omega⟩, trivial⟩ ?_ ?_
  · intro q hq
    cases hq with
    | head => exact ⟨⟨by decide, by show (h.2.1 93 1).toInt = (h.2.1 93 1).toInt + 0; omega⟩, cls93⟩
    | tail _ t => cases t
  · intro v h' a b
    obtain ⟨r, e⟩ := qp_lng b (by decide +kernel)
    exact e ▸ hQ r h' a
theorem alone_e {X : Scr} {dp : Nat} {h : Hp} {Q : Option Value → Hp → Prop} (w : Int32) (hd : 40 ≤ dp) (hi : INVE h) (hQ : ∀ (r : Int32) h', INVE h' → Q (some (.int r)) h') : Ends X (dp + 1) 170 0 [.ref 93, .int w, .retAddr 0, .retAddr 0] [] h Q :=
  alone_f w hd hi.1 (fun r h' a f => hQ r h' ⟨a, EQV_f (W := WAL) (by decide) f hi.2⟩)
theorem spread_e {X : Scr} {dp : Nat} {h : Hp} {Q : Option Value → Hp → Prop} (k : Int32) (hd : 40 ≤ dp) (hi : INVE h) (hQ : ∀ (r : Int32) h', INVE h' → Q (some (.int r)) h') : Ends X (dp + 1 + 1 + 1) 173 0 [.ref 93, .int k, .retAddr 0, .retAddr 0, .retAddr 0, .retAddr 0, .retAddr 0] [] h Q :=
  spread_s k hd hi.1.1 hi.1.2.1 (by rw [hi.1.2.2.1]; rfl) (fun r h' a b _ => hQ r h' ⟨INV_fr (W := WSP) (by decide) a b hi.1, EQV_f (W := WSP) (by decide) b hi.2⟩)
theorem behind_e {X : Scr} {dp : Nat} {h : Hp} {Q : Option Value → Hp → Prop} (p o : Int32) (hd : 40 ≤ dp) (hi : INVE h) (hQ : ∀ (r : Int32) h', INVE h' → Q (some (.int r)) h') : Ends X (dp + 1) 174 0 [.ref 93, .int p, .int o, .retAddr 0, .retAddr 0] [] h Q :=
  behind_s p o hd hi.1.1 hi.1.2.1 (fun r h' a b => hQ r h' ⟨INV_fr (W := WBH) (by decide) a b hi.1, EQV_f (W := WBH) (by decide) b hi.2⟩)
theorem yard_e {X : Scr} {dp : Nat} {h : Hp} {Q : Option Value → Hp → Prop} (hi : INVE h) (hQ : ∀ (r : Int32) h', INVE h' → Q (some (.int r)) h') : Ends X (dp + 1 + 1 + 1 + 1 + 1 + 1 + 1) 133 0 [.ref 93, .retAddr 0] [] h Q := by
  obtain ⟨hi, hq⟩ := hi
  refine yard_s hi.1 hi.2.1.1 (fun r h' a b c => hQ r h' ⟨?_, EQV_f (W := WY) (by decide) b hq⟩)
  obtain ⟨-, j1, g, s, q, ⟨x1, x2⟩, r1, r2, r3⟩ := hi
  have e : ∀ a k, inW WY a k = false → h'.2.1 a k = h.2.1 a k := fun a k hs => (b a k hs).1
  have er : ∀ a k, inW WY a k = false → h'.2.2.2 a k = h.2.2.2 a k := fun a k hs => (b a k hs).2.2
  refine ⟨a, ⟨c, by rw [e 93 30 rfl]; exact j1.2⟩, by rw [e 93 32 rfl]; exact g, by rw [e 93 1 rfl]; exact s, by rw [e 93 47 rfl]; exact q, ⟨fun i hi => ?_, fun i hi => ?_⟩, ?_, ?_, ?_⟩
  · rw [er 56 i (by simp [inW, WY])]; exact x1 i hi
  · rw [er 38 i (by simp [inW, WY])]; exact x2 i hi
  · rw [e 1 0 rfl, e 93 0 rfl]; exact r1
  · rw [e 9 0 rfl, e 93 46 rfl]; exact r2
  · rw [e 0 2 rfl, e 93 44 rfl]; exact r3
/-! At first. -/
def eqB (h : Hp) (a b n : Nat) : Bool := (List.range n).all (fun j => decide (h.2.1 a j = h.2.1 b j))
theorem eqB_ok {h : Hp} {a b n : Nat} (e : eqB h a b n = true) : eqr h a b n := fun j hj => of_decide_eq_true (List.all_eq_true.mp e j (List.mem_range.mpr hj))
def zB (h : Hp) (a : Nat) : Bool := (List.range 28).all (fun j => decide (h.2.1 a j = 0))
theorem zB_ok {h : Hp} {a : Nat} {s : Int32} (e : zB h a = true) : zrr h a s := fun j _ hj => of_decide_eq_true (List.all_eq_true.mp e j (List.mem_range.mpr hj))
def tB (h : Hp) : Bool := (List.range 6).all (fun t => (List.range 60).all (fun k => decide (h.2.2.1 (57 + t) k = h.2.2.1 125 (60 * t + k)))) && (List.range 6).all (fun t => decide (h.2.1 55 t = 0) && decide (h.2.1 54 t = -1))
theorem first_ok : (eqB hI0 2 94 7 && eqB hI0 3 95 7 && eqB hI0 5 97 7 && eqB hI0 10 115 7 && eqB hI0 11 116 7 && eqB hI0 13 118 7 && (eqB hI0 7 99 28 && eqB hI0 15 120 28 && zB hI0 7 && zB hI0 15) && (eqB hI0 8 114 12 && eqB hI0 16 121 12 && decide (hI0.2.1 1 11 = hI0.2.1 93 42) && decide (hI0.2.1 9 11 = hI0.2.1 93 50)) && (decide (hI0.2.1 1 9 = hI0.2.1 93 41) && decide (hI0.2.1 9 9 = hI0.2.1 93 49)) && (eqB hI0 52 122 20 && decide (hI0.2.1 51 4 = hI0.2.1 93 58)) && (eqB hI0 54 123 6 && eqB hI0 55 124 6 && tB hI0)) = true := by decide +kernel
theorem INVE_0 : INVE hI0 := by
  have f := first_ok
  simp only [Bool.and_eq_true, decide_eq_true_eq] at f
  obtain ⟨⟨⟨⟨⟨⟨⟨⟨⟨⟨a1, a2⟩, a3⟩, a4⟩, a5⟩, a6⟩, ⟨⟨b1, b2⟩, b3⟩, b4⟩, ⟨⟨c1, c2⟩, c3⟩, c4⟩, d1, d2⟩, e1, e2⟩, ⟨g1, g2⟩, g3⟩ := f
  unfold tB at g3
  rw [Bool.and_eq_true] at g3
  refine ⟨INV_0, ⟨eqB_ok a1, eqB_ok a2, eqB_ok a3, eqB_ok a4, eqB_ok a5, eqB_ok a6⟩, ⟨eqB_ok b1, eqB_ok b2, zB_ok b3, zB_ok b4⟩, ⟨eqB_ok c1, eqB_ok c2, c3, c4⟩, ⟨d1, d2⟩, ⟨eqB_ok e1, e2⟩, eqB_ok g1, eqB_ok g2, fun t k ht hk => ?_, fun t ht _ => ?_, fun t k ht hk q => ?_⟩
  · exact of_decide_eq_true (List.all_eq_true.mp (List.all_eq_true.mp g3.1 t (List.mem_range.mpr ht)) k (List.mem_range.mpr hk))
  · have := List.all_eq_true.mp g3.2 t (List.mem_range.mpr ht)
    rw [Bool.and_eq_true] at this
    exact of_decide_eq_true this.1
  · have := List.all_eq_true.mp g3.2 t (List.mem_range.mpr ht)
    rw [Bool.and_eq_true] at this
    rw [of_decide_eq_true this.2] at q
    cases q
end JN99t7plaine
