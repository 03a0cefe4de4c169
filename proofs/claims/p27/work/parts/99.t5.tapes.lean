/-! Tapes: both sides exactly, and the pairs of calls. -/
section TAPES
variable {X : Scr} {dp : Nat} {h h0 : Hp} {Q : Option Value → Hp → Prop}
theorem inW1 {a b k : Nat} (h : ¬ b = a) : inW [(b, 999)] a k = false := by
  have : (b == a) = false := by simpa using h
  simp [inW, this]
theorem fil_go {a : Nat} (hA : (decide (a < 1000) && decide (SHl[a]? = some (.inl (1, 60)))) = true) (hQ : ∀ h', HI h' → frm [(a, 999)] h0 h' → (∀ j, j < 60 → h'.2.2.1 a j = 0) → Q none h') :
    ∀ (m n : Nat) (i : Int32) (h : Hp), HI h → frm [(a, 999)] h0 h → i.toInt = n → n + m = 60 → (∀ j, j < n → h.2.2.1 a j = 0) → Ends X dp 220 6 [.ref a, .long 0, .retAddr 0, .int i, .int 60] [] h Q
  | m, n, i, h, hh, hf, hi, hm, z => by
    have j60 : (60 : Int32).toInt = 60 := rfl
    refine w_fil1 a hA 0 i 60 hh.hs ⟨fun e => ?_, fun e => ?_⟩
    · have e : (60 : Int32).toInt ≤ i.toInt := of_decide_eq_true (cI e)
      exact hQ h hh hf (fun j hj => z j (by omega))
    · have e : ¬ (60 : Int32).toInt ≤ i.toInt := of_decide_eq_false (cI e)
      match m, hm with
      | 0, hm => omega
      | m + 1, hm =>
        have hi1 : (i + 1).toInt = ((n + 1 : Nat) : Int) := by rw [i_add (by rw [i1]; omega) (by rw [i1]; omega), i1]; omega
        have q : i.toNatClampNeg = n := by show i.toInt.toNat = _; omega
        refine ⟨inB_iff (by omega) (by omega), ?_⟩
        rw [q]
        refine fil_go hA hQ m (n + 1) (i + 1) _ (HI_putL hh) (frm_putL hf (by simp [inW])) hi1 (by omega) (fun j hj => ?_)
        by_cases c : j = n
        · rw [c, putL_at]
        · rw [putL_ne (by omega)]
          exact z j (by omega)
theorem fil_ok {a : Nat} (hA : (decide (a < 1000) && decide (SHl[a]? = some (.inl (1, 60)))) = true) (hh : HI h) (hQ : ∀ h', HI h' → frm [(a, 999)] h h' → (∀ j, j < 60 → h'.2.2.1 a j = 0) → Q none h') : Ends X dp 220 0 [.ref a, .long 0, .retAddr 0, .retAddr 0, .retAddr 0] [] h Q :=
  w_fil0 a hA 0 hh.hs (fil_go hA hQ 60 0 0 h hh frm_refl rfl rfl (fun j hj => absurd hj (Nat.not_lt_zero j)))
theorem row_A {t : Nat} (ht : t < 6) : (decide (57 + t < 1000) && decide (SHl[57 + t]? = some (.inl (1, 60)))) = true := by
  rw [Bool.and_eq_true, decide_eq_true_eq, decide_eq_true_eq]
  exact ⟨by omega, sh_rows t ht⟩
def WTC : List (Nat × Nat) := [(54, 999), (55, 999), (57, 999), (58, 999), (59, 999), (60, 999), (61, 999), (62, 999)]
theorem WTC_row {t k : Nat} (ht : t < 6) : inW WTC (57 + t) k = true := by
  match t, ht with
  | 0, _ => simp [inW, WTC]
  | 1, _ => simp [inW, WTC]
  | 2, _ => simp [inW, WTC]
  | 3, _ => simp [inW, WTC]
  | 4, _ => simp [inW, WTC]
  | 5, _ => simp [inW, WTC]
  | t + 6, h => omega
/-- a tape of the class becomes a row -/
def TBc (h h' : Hp) (t : Nat) (s m : Int32) : Prop := (∀ j, h'.2.1 54 j = if j = t then s else h.2.1 54 j) ∧ (∀ j, h'.2.1 55 j = if j = t then m else h.2.1 55 j) ∧ ∀ u k, u < 6 → k < 60 → h'.2.2.1 (57 + u) k = if u = t then 0 else h.2.2.1 (57 + u) k
theorem cbcm_ok (t s m : Int32) (hh : HI h) (rx : RX h) (ht : 0 ≤ t.toInt ∧ t.toInt ≤ 5) (hs1 : -1 ≤ s.toInt) (hs2 : s.toInt ≤ 4) (hm1 : 0 ≤ m.toInt) (hm2 : m.toInt ≤ 60) (hQ : ∀ h', HI h' → frm WTC h h' → TBc h h' t.toInt.toNat s m → Q none h') : Ends X (dp + 1) 38 0 [.ref 53, .int t, .int s, .int m] [] h Q := by
  have hs := hh.hs
  refine w_cbcm t s m hs (cex_ok t hs ⟨_, rfl, hs, fun e => ?_, fun e => ?_⟩)
  · exact absurd ht (bnand (cz e))
  have it : inB t 6 = true := inB_iff ht.1 (by omega)
  have hn : t.toInt.toNat < 6 := by omega
  have g : HI (hpI (hpI h 54 t.toInt.toNat s) 55 t.toInt.toNat m) := HI_put (HI_put hh hs1 hs2) hm1 hm2
  have f : frm WTC h (hpI (hpI h 54 t.toInt.toNat s) 55 t.toInt.toNat m) := frm_put (frm_put frm_refl (by simp [inW, WTC])) (by simp [inW, WTC])
  refine ⟨it, it, 57 + t.toInt.toNat, it, rx.1 _ hn, by omega, fil_ok (row_A hn) g (fun h' z1 z2 z3 => ⟨rfl, z1.hs, hQ h' z1 ?_ ⟨fun j => ?_, fun j => ?_, fun u k hu hk => ?_⟩⟩)⟩
  · refine frm_trans f (fun a k hk => z2 a k ?_)
    by_cases c : a = 57 + t.toInt.toNat
    · rw [c, WTC_row hn] at hk
      cases hk
    · exact inW1 (fun q => c q.symm)
  · have q : h'.2.1 54 j = (hpI (hpI h 54 t.toInt.toNat s) 55 t.toInt.toNat m).2.1 54 j := frI z2 (inW1 (by omega))
    rw [q, put_ne (by omega), put_if]
  · have q : h'.2.1 55 j = (hpI (hpI h 54 t.toInt.toNat s) 55 t.toInt.toNat m).2.1 55 j := frI z2 (inW1 (by omega))
    rw [q, put_if, put_ne (by omega)]
  · by_cases c : u = t.toInt.toNat
    · rw [if_pos c, c]
      exact z3 k hk
    · rw [if_neg c]
      exact (z2 (57 + u) k (inW1 (by omega))).2.1
def tpOK (t : Int32) : Prop := 0 ≤ t.toInt ∧ t.toInt ≤ 5
def gOK (s n : Int32) : Prop := s.toInt = -1 ∨ (0 ≤ s.toInt ∧ s.toInt ≤ 4 ∧ 0 ≤ n.toInt ∧ n.toInt ≤ 60)
def tBAD (s n : Int32) : Prop := s.toInt < -1 ∨ 4 < s.toInt ∨ (0 ≤ s.toInt ∧ 60 < n.toInt)
def tSZ (s n : Int32) : Prop := 0 ≤ s.toInt ∧ s.toInt ≤ 4 ∧ n.toInt < 0
def mOf (s n : Int32) : Int32 := if s.toInt < 0 then 0 else n
theorem ctap_ok (t s n : Int32) (hh : HI h) (rx : RX h) (q1 : ¬ tpOK t → Q (some (.int (-1))) h) (q2 : tpOK t → tBAD s n → Q (some (.int (-2))) h) (q3 : tpOK t → tSZ s n → Q (some (.int (-14))) h) (q4 : tpOK t → gOK s n → ∀ h', HI h' → frm WTC h h' → TBc h h' t.toInt.toNat s (mOf s n) → Q (some (.int 1)) h') : Ends X (dp + 1 + 1) 95 0 [.ref 0, .int t, .int s, .int n] [] h Q := by
  have hs := hh.hs
  have jm : (-1 : Int32).toInt = -1 := rfl
  have j4 : (4 : Int32).toInt = 4 := rfl
  have j60 : (60 : Int32).toInt = 60 := rfl
  have z0 : (0 : Int32).toInt = 0 := rfl
  refine w_ctap t s n hs (cex_ok t hs ⟨_, rfl, hs, fun e => ?_, fun e => q1 (bnand (cz2 e))⟩)
  have e : tpOK t := band (cn2 e)
  refine ⟨fun e2 => ⟨fun e3 => q2 e ?_, fun e3 => ⟨fun e4 => q2 e ?_, fun e4 => ⟨fun e5 => ⟨fun e6 => ?_, fun e6 => q3 e ?_⟩, fun e5 => q2 e ?_⟩⟩⟩, fun e2 => ?_⟩
  · have e2 : ¬ s = -1 := of_decide_eq_true e2
    have e3 : s.toInt < 0 := of_decide_eq_true (cI e3)
    have : ¬ s.toInt = -1 := fun d => e2 (Int32.toInt_inj.mp d)
    exact Or.inl (by omega)
  · have e4 : 4 < s.toInt := of_decide_eq_true (cI e4)
    exact Or.inr (Or.inl e4)
  · have e3 : ¬ s.toInt < 0 := of_decide_eq_false (cI e3)
    have e4 : ¬ 4 < s.toInt := of_decide_eq_false (cI e4)
    have e5 : n.toInt ≤ 60 := of_decide_eq_true (cI e5)
    have e6 : 0 ≤ n.toInt := of_decide_eq_true (cI e6)
    refine cbcm_ok t s n hh rx e (by omega) (by omega) e6 e5 (fun h' z1 z2 z3 => ⟨rfl, z1.hs, q4 e (Or.inr ⟨by omega, by omega, e6, e5⟩) h' z1 z2 ?_⟩)
    unfold mOf
    rw [if_neg e3]
    exact z3
  · have e3 : ¬ s.toInt < 0 := of_decide_eq_false (cI e3)
    have e4 : ¬ 4 < s.toInt := of_decide_eq_false (cI e4)
    have e6 : ¬ 0 ≤ n.toInt := of_decide_eq_false (cI e6)
    exact ⟨by omega, by omega, by omega⟩
  · have e3 : ¬ s.toInt < 0 := of_decide_eq_false (cI e3)
    have e5 : ¬ n.toInt ≤ 60 := of_decide_eq_false (cI e5)
    exact Or.inr (Or.inr ⟨by omega, by omega⟩)
  · have e2 : s = -1 := Decidable.not_not.mp (of_decide_eq_false e2)
    have e3 : s.toInt = -1 := by rw [e2]; rfl
    refine cbcm_ok t s 0 hh rx e (by omega) (by omega) (by decide) (by decide) (fun h' z1 z2 z3 => ⟨rfl, z1.hs, q4 e (Or.inl e3) h' z1 z2 ?_⟩)
    unfold mOf
    rw [if_pos (by omega)]
    exact z3
def WTM : List (Nat × Nat) := [(123, 999), (124, 999), (125, 999)]
theorem WTM_3 {k : Nat} : inW WTM 123 k = true := by simp [inW, WTM]
theorem WTM_4 {k : Nat} : inW WTM 124 k = true := by simp [inW, WTM]
theorem WTM_5 {k : Nat} : inW WTM 125 k = true := by simp [inW, WTM]
theorem idx60 {t k : Int32} {tn kn : Nat} (ht : t.toInt = tn) (hk : k.toInt = kn) (h1 : tn ≤ 5) (h2 : kn < 60) : ((60 * t) + k).toInt = ((60 * tn + kn : Nat) : Int) := by
  have j60 : (60 : Int32).toInt = 60 := rfl
  have e : (60 * t).toInt = 60 * t.toInt := by rw [i_mul (by rw [j60]; omega) (by rw [j60]; omega), j60]
  rw [i_add (by omega) (by omega)]
  omega
theorem mtap_go (t s n : Int32) (tn : Nat) (ht : t.toInt = tn) (h5 : tn ≤ 5) (hQ : ∀ h', HI h' → frm WTM h0 h' → h'.2.1 = h0.2.1 → (∀ x, h'.2.2.1 125 x = if 60 * tn ≤ x ∧ x < 60 * tn + 60 then 0 else h0.2.2.1 125 x) → Q (some (.int 1)) h') :
    ∀ (m i : Nat) (k : Int32) (h : Hp), HI h → frm WTM h0 h → h.2.1 = h0.2.1 → k.toInt = i → i + m = 60 → (∀ x, h.2.2.1 125 x = if 60 * tn ≤ x ∧ x < 60 * tn + i then 0 else h0.2.2.1 125 x) → Ends X dp 199 69 [.ref 93, .int t, .int s, .int n, .int k] [] h Q
  | m, i, k, h, hh, hf, he, hk, hm, z => by
    have j60 : (60 : Int32).toInt = 60 := rfl
    refine w_mtap1 t s n k hh.hs ⟨fun e => ?_, fun e => ?_⟩
    · have e : (60 : Int32).toInt ≤ k.toInt := of_decide_eq_true (cI e)
      have : i = 60 := by omega
      exact hQ h hh hf he (this ▸ z)
    · have e : ¬ (60 : Int32).toInt ≤ k.toInt := of_decide_eq_false (cI e)
      match m, hm with
      | 0, hm => omega
      | m + 1, hm =>
        have hk1 : (k + 1).toInt = ((i + 1 : Nat) : Int) := by rw [i_add (by rw [i1]; omega) (by rw [i1]; omega), i1]; omega
        have ei := idx60 ht hk h5 (by omega)
        have q : ((60 * t) + k).toNatClampNeg = 60 * tn + i := by show ((60 * t) + k).toInt.toNat = _; rw [ei]; rfl
        refine ⟨inB_iff (by rw [ei]; omega) (by rw [ei]; omega), ?_⟩
        rw [q]
        refine mtap_go t s n tn ht h5 hQ m (i + 1) (k + 1) _ (HI_putL hh) (frm_putL hf WTM_5) he hk1 (by omega) (fun x => ?_)
        by_cases c : x = 60 * tn + i
        · rw [c, putL_at, if_pos (by omega)]
        · rw [putL_ne (by omega), z x]
          by_cases d : 60 * tn ≤ x ∧ x < 60 * tn + i
          · rw [if_pos d, if_pos (by omega)]
          · rw [if_neg d, if_neg (by omega)]
/-- a tape of the reference becomes a row -/
def TBm (h h' : Hp) (t : Nat) (s m : Int32) : Prop := (∀ j, h'.2.1 123 j = if j = t then s else h.2.1 123 j) ∧ (∀ j, h'.2.1 124 j = if j = t then m else h.2.1 124 j) ∧ ∀ x, h'.2.2.1 125 x = if 60 * t ≤ x ∧ x < 60 * t + 60 then 0 else h.2.2.1 125 x
theorem mtap_s (t s n m : Int32) (hh : HI h) (ht : tpOK t) (hs1 : -1 ≤ s.toInt) (hs2 : s.toInt ≤ 4) (hm1 : 0 ≤ m.toInt) (hm2 : m.toInt ≤ 60) (hQ : ∀ h', HI h' → frm WTM h h' → TBm h h' t.toInt.toNat s m → Q (some (.int 1)) h') : Ends X dp 199 69 [.ref 93, .int t, .int s, .int n, .int 0] [] (hpI (hpI h 123 t.toNatClampNeg s) 124 t.toNatClampNeg m) Q := by
  have g : HI (hpI (hpI h 123 t.toInt.toNat s) 124 t.toInt.toNat m) := HI_put (HI_put hh hs1 hs2) hm1 hm2
  have f : frm WTM h (hpI (hpI h 123 t.toInt.toNat s) 124 t.toInt.toNat m) := frm_put (frm_put frm_refl WTM_3) WTM_4
  have ht' : t.toInt = (t.toInt.toNat : Int) := (Int.toNat_of_nonneg ht.1).symm
  have h5 : t.toInt.toNat ≤ 5 := by have := ht.2; omega
  show Ends X dp 199 69 _ [] (hpI (hpI h 123 t.toInt.toNat s) 124 t.toInt.toNat m) Q
  refine mtap_go (h0 := hpI (hpI h 123 t.toInt.toNat s) 124 t.toInt.toNat m) t s n t.toInt.toNat ht' h5 (fun h' z1 z2 z3 z4 => hQ h' z1 (frm_trans f z2) ⟨fun j => ?_, fun j => ?_, z4⟩) 60 0 0 _ g frm_refl rfl rfl rfl (fun x => by rw [if_neg (by omega)])
  · rw [z3, put_ne (by omega), put_if]
  · rw [z3, put_if, put_ne (by omega)]
theorem noc {b : Bool} (h1 : b = true) (h2 : b = false) : False := by rw [h1] at h2; cases h2
theorem mtap_ok (t s n : Int32) (hh : HI h) (q1 : ¬ tpOK t → Q (some (.int (-1))) h) (q2 : tpOK t → tBAD s n → Q (some (.int (-2))) h) (q3 : tpOK t → tSZ s n → Q (some (.int (-14))) h) (q4 : tpOK t → gOK s n → ∀ h', HI h' → frm WTM h h' → TBm h h' t.toInt.toNat s (mOf s n) → Q (some (.int 1)) h') : Ends X (dp + 1 + 1) 199 0 [.ref 93, .int t, .int s, .int n, .retAddr 0] [] h Q := by
  have hs := hh.hs
  have jm : (-1 : Int32).toInt = -1 := rfl
  have j4 : (4 : Int32).toInt = 4 := rfl
  refine w_mtap0 t s n hs (tape_ok t hs ⟨_, rfl, hs, fun e => ?_, fun e => q1 (bnand (cz2 e))⟩)
  have e : tpOK t := band (cn2 e)
  have it : inB t 6 = true := inB_iff e.1 (by have := e.2; omega)
  refine in_ok _ _ _ hs ⟨_, rfl, hs, fun e2 => q2 e ?_, fun e2 => ?_⟩
  · have e2 := bnand (cz e2)
    rw [jm, j4] at e2
    unfold tBAD
    omega
  have e2 := band (cn e2)
  rw [jm, j4] at e2
  refine ⟨fun e3 => ?_, fun e3 => ?_⟩
  · have e4 : s.toInt < 0 := of_decide_eq_true (cI e3)
    have em : mOf s n = 0 := by unfold mOf; rw [if_pos e4]
    have := q4 e (Or.inl (by omega))
    rw [em] at this
    refine ⟨fun _ => ⟨it, fun e5 => ?_, fun _ => ⟨it, mtap_s t s n 0 hh e e2.1 e2.2 (by decide) (by decide) this⟩⟩, fun e5 => (noc e3 e5).elim⟩
    have e5 : 0 ≤ s.toInt := of_decide_eq_true (cI e5)
    omega
  · have e4 : ¬ s.toInt < 0 := of_decide_eq_false (cI e3)
    refine ⟨fun e5 => ⟨fun e6 => (noc e6 e3).elim, fun _ => ⟨fun e6 => ⟨it, fun _ => ⟨it, ?_⟩, fun e7 => ?_⟩, fun e6 => q3 e ?_⟩⟩, fun e5 => q2 e ?_⟩
    · have e5 : n.toInt ≤ 60 := of_decide_eq_true (cI e5)
      have e6 : 0 ≤ n.toInt := of_decide_eq_true (cI e6)
      have em : mOf s n = n := by unfold mOf; rw [if_neg e4]
      have := q4 e (Or.inr ⟨by omega, by omega, e6, e5⟩)
      rw [em] at this
      exact mtap_s t s n n hh e e2.1 e2.2 e6 e5 this
    · exfalso
      have e7 : ¬ 0 ≤ s.toInt := of_decide_eq_false (cI e7)
      omega
    · have e6 : ¬ 0 ≤ n.toInt := of_decide_eq_false (cI e6)
      exact ⟨by omega, by omega, by omega⟩
    · have e5 : ¬ n.toInt ≤ 60 := of_decide_eq_false (cI e5)
      exact Or.inr (Or.inr ⟨by omega, by omega⟩)
def WTA : List (Nat × Nat) := WTC ++ WTM
theorem xor3 {s n : Int32} : (tBAD s n ∧ ¬ tSZ s n ∧ ¬ gOK s n) ∨ (¬ tBAD s n ∧ tSZ s n ∧ ¬ gOK s n) ∨ (¬ tBAD s n ∧ ¬ tSZ s n ∧ gOK s n) := by
  unfold tBAD tSZ gOK
  omega
theorem tape_pair (t s n : Int32) (hi : INVE h) {K : Hp → Int32 → Int32 → Prop} (hK : ∀ r h', INVE h' → frm WTA h h' → K h' r r) (hQ : ∀ r h1, HI h1 → REF X (dp + 1 + 1) 199 [.ref 93, .int t, .int s, .int n, .retAddr 0] K r h1 → Q (some (.int r)) h1) : Ends X (dp + 1 + 1) 95 0 [.ref 0, .int t, .int s, .int n] [] h Q := by
  have hh := hi.1.1
  refine ctap_ok t s n hh hi.1.2.2.2.2.2.1 (fun c => ?_) (fun c c2 => ?_) (fun c c2 => ?_) (fun c c2 h1 z1 z2 z3 => ?_)
  · exact hQ _ h hh (mtap_ok t s n hh (fun _ => ⟨_, rfl, hh.hs, hK _ h hi frm_refl⟩) (fun d => absurd d c) (fun d => absurd d c) (fun d => absurd d c))
  · rcases xor3 (s := s) (n := n) with x | x | x
    · exact hQ _ h hh (mtap_ok t s n hh (fun d => absurd c d) (fun _ _ => ⟨_, rfl, hh.hs, hK _ h hi frm_refl⟩) (fun _ d => absurd d x.2.1) (fun _ d => absurd d x.2.2))
    · exact absurd c2 x.1
    · exact absurd c2 x.1
  · rcases xor3 (s := s) (n := n) with x | x | x
    · exact absurd c2 x.2.1
    · exact hQ _ h hh (mtap_ok t s n hh (fun d => absurd c d) (fun _ d => absurd d x.1) (fun _ _ => ⟨_, rfl, hh.hs, hK _ h hi frm_refl⟩) (fun _ d => absurd d x.2.2))
    · exact absurd c2 x.2.1
  · rcases xor3 (s := s) (n := n) with x | x | x
    · exact absurd c2 x.2.2
    · exact absurd c2 x.2.2
    · refine hQ _ h1 z1 (mtap_ok t s n z1 (fun d => absurd c d) (fun _ d => absurd d x.1) (fun _ d => absurd d x.2.1) (fun _ _ h2 y1 y2 y3 => ⟨_, rfl, y1.hs, hK _ h2 ?_ (frm_trans (frm_mono (by decide) z2) (frm_mono (by decide) y2))⟩))
      have f : frm WTA h h2 := frm_trans (frm_mono (by decide) z2) (frm_mono (by decide) y2)
      obtain ⟨p1, p2, p3, p4, p5, t1, t2, t3, t4, t5⟩ := hi.2
      obtain ⟨z3, z4, z5⟩ := z3
      obtain ⟨y3, y4, y5⟩ := y3
      have hn : t.toInt.toNat < 6 := by have := c.2; have := c.1; omega
      refine ⟨INV_fr (W := WTA) (by decide) y1 f hi.1, EK_f (W := WTA) (by decide) f p1, ER_f (W := WTA) (by decide) f p2, EB_f (W := WTA) (by decide) f p3, ES_f (W := WTA) (by decide) f p4, EA_f (W := WTA) (by decide) f p5, fun j hj => ?_, fun j hj => ?_, fun u k hu hk => ?_, fun u hu hc => ?_, fun u k hu hk hc => ?_⟩
      · rw [frI y2 (a := 54) (by simp [inW, WTM]), z3 j, y3 j, frI z2 (a := 123) (by simp [inW, WTC])]
        by_cases d : j = t.toInt.toNat
        · rw [if_pos d, if_pos d]
        · rw [if_neg d, if_neg d]; exact t1 j hj
      · rw [frI y2 (a := 55) (by simp [inW, WTM]), z4 j, y4 j, frI z2 (a := 124) (by simp [inW, WTC])]
        by_cases d : j = t.toInt.toNat
        · rw [if_pos d, if_pos d]
        · rw [if_neg d, if_neg d]; exact t2 j hj
      · have a1 : h2.2.2.1 (57 + u) k = h1.2.2.1 (57 + u) k := (y2 (57 + u) k (by simp [inW, WTM]; omega)).2.1
        have a2 : ∀ x, h1.2.2.1 125 x = h.2.2.1 125 x := fun x => (z2 125 x (by simp [inW, WTC])).2.1
        rw [a1, z5 u k hu hk, y5, a2]
        by_cases d : u = t.toInt.toNat
        · rw [if_pos d, if_pos (by omega)]
        · rw [if_neg d, if_neg (by omega)]; exact t3 u k hu hk
      · rw [frI y2 (a := 54) (by simp [inW, WTM]), z3 u] at hc
        rw [frI y2 (a := 55) (by simp [inW, WTM]), z4 u]
        by_cases d : u = t.toInt.toNat
        · rw [if_pos d] at hc ⊢
          unfold mOf
          rw [if_pos (by omega)]
        · rw [if_neg d] at hc ⊢
          exact t4 u hu hc
      · rw [frI y2 (a := 54) (by simp [inW, WTM]), z3 u] at hc
        have a1 : h2.2.2.1 (57 + u) k = h1.2.2.1 (57 + u) k := (y2 (57 + u) k (by simp [inW, WTM]; omega)).2.1
        rw [a1, z5 u k hu hk]
        by_cases d : u = t.toInt.toNat
        · rw [if_pos d]
          exact Or.inl rfl
        · rw [if_neg d] at hc ⊢
          exact t5 u k hu hk hc
/-! an item -/
theorem i64 {i : Int32} : i.toInt64.toInt = i.toInt := Int32.toInt_toInt64 i
theorem l0 : (0 : Int64).toInt = 0 := rfl
theorem l60 : (60 : Int64).toInt = 60 := rfl
theorem chpl_ok (t i : Int32) (ht : tpOK t) (hh : HI h) (hQ : Q (some (.int (b2i (decide (0 ≤ i.toInt) && decide (i.toInt < (h.2.1 55 t.toInt.toNat).toInt))))) h) : Ends X (dp + 1) 36 0 [.ref 53, .int t, .long i.toInt64, .retAddr 0] [] h Q := by
  have b := hh.iv 55 t.toInt.toNat (r := (0, 60)) rfl
  simp only at b
  have eL : (h.2.1 55 t.toNatClampNeg).toInt64.toInt = (h.2.1 55 t.toInt.toNat).toInt := Int32.toInt_toInt64 _
  refine w_chpl t i.toInt64 hh.hs (cex_ok t hh.hs ⟨_, rfl, hh.hs, fun e => absurd ht (bnand (cz e)), fun e => ⟨fun e2 => ?_, fun e2 => ⟨inB_iff ht.1 (by have := ht.2; omega), fun e3 => ?_, fun e3 => ⟨fun e4 => ?_, fun e4 => ?_⟩⟩⟩⟩)
  · have e2 : (lg_cmp i.toInt64 0).toInt < 0 := of_decide_eq_true (cI e2)
    rw [lgc, i64, l0] at e2
    have : ¬ 0 ≤ i.toInt := by
      split at e2
      · omega
      · split at e2 <;> omega
    rwa [decide_eq_false this] at hQ
  all_goals
    have e2 : ¬ (lg_cmp i.toInt64 0).toInt < 0 := of_decide_eq_false (cI e2)
    rw [lgc, i64, l0] at e2
    have e2 : 0 ≤ i.toInt := by
      split at e2
      · omega
      · omega
  · have e3 : 0 ≤ (lg_cmp i.toInt64 (h.2.1 55 t.toNatClampNeg).toInt64).toInt := of_decide_eq_true (cI e3)
    rw [lgc, i64, eL] at e3
    have : ¬ i.toInt < (h.2.1 55 t.toInt.toNat).toInt := by
      split at e3
      · omega
      · omega
    rwa [decide_eq_true e2, decide_eq_false this] at hQ
  all_goals
    have e3 : ¬ 0 ≤ (lg_cmp i.toInt64 (h.2.1 55 t.toNatClampNeg).toInt64).toInt := of_decide_eq_false (cI e3)
    rw [lgc, i64, eL] at e3
    have e3 : i.toInt < (h.2.1 55 t.toInt.toNat).toInt := by
      split at e3
      · omega
      · split at e3 <;> omega
  · exfalso
    have e4 : 0 ≤ (lg_cmp i.toInt64 60).toInt := of_decide_eq_true (cI e4)
    rw [lgc, i64, l60] at e4
    split at e4
    · omega
    · omega
  · rwa [decide_eq_true e2, decide_eq_true e3] at hQ
/-- a value as a sort has it -/
def sA (s : Int32) (v : Int64) : Int64 := if s = 0 then v.toInt32.toInt8.toInt32.toInt64 else if s = 1 then v.toInt32.toInt16.toInt32.toInt64 else if s = 2 then v.toInt32.toInt64 else if s = 4 then (if v = 0 then 0 else 1) else v
theorem lg_z {v : Int64} : (lg_cmp v 0).toInt = 0 ↔ v = 0 := by
  rw [lgc, l0]
  constructor
  · intro h
    apply Int64.toInt_inj.mp
    rw [l0]
    split at h
    · omega
    · split at h
      · assumption
      · omega
  · intro h
    rw [h, l0]
    rfl
theorem cass_ok (s : Int32) (v : Int64) (hs : HS h) (b1 : -1 ≤ s.toInt) (b2 : s.toInt ≤ 4) (hQ : Q (some (.long (sA s v))) h) : Ends X dp 39 0 [.int s, .long v, .retAddr 0] [] h Q := by
  unfold sA at hQ
  have e : ∀ c : Int32, s.toInt = c.toInt → s = c := fun c q => Int32.toInt_inj.mp q
  refine w_cass s v hs ⟨fun c => ?_, fun c => ?_, fun c => ?_, fun c => ?_, fun c => ?_, fun c => ⟨fun d => ?_, fun d => ?_⟩⟩
  · have n0 : ¬ s = 0 := fun d => by rw [d] at c; revert c; decide
    have n1 : ¬ s = 1 := fun d => by rw [d] at c; revert c; decide
    have n2 : ¬ s = 2 := fun d => by rw [d] at c; revert c; decide
    have n4 : ¬ s = 4 := fun d => by rw [d] at c; revert c; decide
    rwa [if_neg n0, if_neg n1, if_neg n2, if_neg n4] at hQ
  · rw [e 0 c] at hQ
    exact hQ
  · rw [e 1 c] at hQ
    exact hQ
  · rw [e 2 c] at hQ
    exact hQ
  · rw [e 3 c] at hQ
    exact hQ
  · have d : (lg_cmp v 0).toInt = 0 := of_decide_eq_true (cI d)
    rw [e 4 c, if_pos (lg_z.mp d)] at hQ
    exact hQ
  · have d : ¬ (lg_cmp v 0).toInt = 0 := of_decide_eq_false (cI d)
    rw [e 4 c, if_neg (fun q => d (lg_z.mpr q))] at hQ
    exact hQ
theorem mnar_ok (s : Int32) (v : Int64) (hs : HS h) (hQ : Q (some (.long (sA s v))) h) : Ends X dp 200 0 [.ref 93, .int s, .long v, .retAddr 0] [] h Q := by
  unfold sA at hQ
  refine w_mnar s v hs ⟨fun c0 => ⟨fun c1 => ⟨fun c2 => ⟨fun c4 => ?_, fun c4 => ⟨fun d => ?_, fun d => ?_⟩⟩, fun c2 => ?_⟩, fun c1 => ?_⟩, fun c0 => ?_⟩
  · rwa [if_neg (of_decide_eq_true c0), if_neg (of_decide_eq_true c1), if_neg (of_decide_eq_true c2), if_neg (of_decide_eq_true c4)] at hQ
  · have d : (lg_cmp v 0).toInt = 0 := of_decide_eq_true (cI d)
    rwa [if_neg (of_decide_eq_true c0), if_neg (of_decide_eq_true c1), if_neg (of_decide_eq_true c2), if_pos (Decidable.not_not.mp (of_decide_eq_false c4)), if_pos (lg_z.mp d)] at hQ
  · have d : ¬ (lg_cmp v 0).toInt = 0 := of_decide_eq_false (cI d)
    rwa [if_neg (of_decide_eq_true c0), if_neg (of_decide_eq_true c1), if_neg (of_decide_eq_true c2), if_pos (Decidable.not_not.mp (of_decide_eq_false c4)), if_neg (fun q => d (lg_z.mpr q))] at hQ
  · rwa [if_neg (of_decide_eq_true c0), if_neg (of_decide_eq_true c1), if_pos (Decidable.not_not.mp (of_decide_eq_false c2))] at hQ
  · rwa [if_neg (of_decide_eq_true c0), if_pos (Decidable.not_not.mp (of_decide_eq_false c1))] at hQ
  · rwa [if_pos (Decidable.not_not.mp (of_decide_eq_false c0))] at hQ
/-- i is a place of a row of n -/
def iOK (i n : Int32) : Prop := 0 ≤ i.toInt ∧ i.toInt < n.toInt
theorem citm_ok (t i : Int32) (v : Int64) (hh : HI h) (rx : RX h) (q1 : ¬ tpOK t → Q (some (.int (-1))) h) (q2 : tpOK t → (h.2.1 54 t.toInt.toNat).toInt < 0 → Q (some (.int (-11))) h) (q3 : tpOK t → ¬ (h.2.1 54 t.toInt.toNat).toInt < 0 → ¬ iOK i (h.2.1 55 t.toInt.toNat) → Q (some (.int (-13))) h)
    (q4 : tpOK t → ¬ (h.2.1 54 t.toInt.toNat).toInt < 0 → iOK i (h.2.1 55 t.toInt.toNat) → Q (some (.int 1)) (hpL h (57 + t.toInt.toNat) i.toInt.toNat (sA (h.2.1 54 t.toInt.toNat) v))) : Ends X (dp + 1 + 1) 96 0 [.ref 0, .int t, .int i, .long v, .retAddr 0] [] h Q := by
  have hs := hh.hs
  have b := hh.iv 54 t.toInt.toNat (r := (-1, 4)) rfl
  have b5 := hh.iv 55 t.toInt.toNat (r := (0, 60)) rfl
  simp only at b b5
  refine w_citm t i v hs (cex_ok t hs ⟨_, rfl, hs, fun e => ?_, fun e => q1 (bnand (cz2 e))⟩)
  have e : tpOK t := band (cn2 e)
  have it : inB t 6 = true := inB_iff e.1 (by have := e.2; omega)
  have hn : t.toInt.toNat < 6 := by have := e.1; have := e.2; omega
  refine ⟨it, fun e2 => chpl_ok t i e hh ⟨_, rfl, hs, fun e3 => ?_, fun e3 => ?_⟩, fun e2 => q2 e ?_⟩
  · have e2 : ¬ (h.2.1 54 t.toInt.toNat).toInt = -1 := of_decide_eq_true (cI e2)
    have e3 : iOK i (h.2.1 55 t.toInt.toNat) := band (cn2 e3)
    exact ⟨57 + t.toInt.toNat, it, rx.1 _ hn, by omega, it, cass_ok _ v hs b.1 b.2 ⟨_, rfl, hs, row_A hn, inB_iff e3.1 (by have := e3.2; omega), q4 e (by omega) e3⟩⟩
  · have e2 : ¬ (h.2.1 54 t.toInt.toNat).toInt = -1 := of_decide_eq_true (cI e2)
    exact q3 e (by omega) (bnand (cz2 e3))
  · have e2 : ¬ ¬ (h.2.1 54 t.toInt.toNat).toInt = -1 := of_decide_eq_false (cI e2)
    omega
theorem mitm_ok (t i : Int32) (v : Int64) (hh : HI h) (q1 : ¬ tpOK t → Q (some (.int (-1))) h) (q2 : tpOK t → (h.2.1 123 t.toInt.toNat).toInt < 0 → Q (some (.int (-11))) h) (q3 : tpOK t → ¬ (h.2.1 123 t.toInt.toNat).toInt < 0 → ¬ iOK i (h.2.1 124 t.toInt.toNat) → Q (some (.int (-13))) h)
    (q4 : tpOK t → ¬ (h.2.1 123 t.toInt.toNat).toInt < 0 → iOK i (h.2.1 124 t.toInt.toNat) → Q (some (.int 1)) (hpL h 125 (60 * t.toInt.toNat + i.toInt.toNat) (sA (h.2.1 123 t.toInt.toNat) v))) : Ends X (dp + 1 + 1) 201 0 [.ref 93, .int t, .int i, .long v, .retAddr 0] [] h Q := by
  have hs := hh.hs
  have b5 := hh.iv 124 t.toInt.toNat (r := (0, 60)) rfl
  have j0 : (0 : Int32).toInt = 0 := rfl
  simp only at b5
  have el : (h.2.1 124 t.toNatClampNeg - 1).toInt = (h.2.1 124 t.toInt.toNat).toInt - 1 := by
    show (h.2.1 124 t.toInt.toNat - 1).toInt = _
    rw [i_sub (by rw [i1]; omega) (by rw [i1]; omega), i1]
  refine w_mitm t i v hs (tape_ok t hs ⟨_, rfl, hs, fun e => ?_, fun e => q1 (bnand (cz2 e))⟩)
  have e : tpOK t := band (cn2 e)
  have it : inB t 6 = true := inB_iff e.1 (by have := e.2; omega)
  have hn : t.toInt.toNat < 6 := by have := e.1; have := e.2; omega
  refine ⟨it, fun e2 => ⟨it, in_ok _ _ _ hs ⟨_, rfl, hs, fun e3 => ?_, fun e3 => ?_⟩⟩, fun e2 => q2 e ?_⟩
  · have e2 : 0 ≤ (h.2.1 123 t.toInt.toNat).toInt := of_decide_eq_true (cI e2)
    have e3 := band (cn2 e3)
    rw [el, j0] at e3
    have e4 : iOK i (h.2.1 124 t.toInt.toNat) := ⟨e3.1, by omega⟩
    have ei := idx60 (t := t) (k := i) (tn := t.toInt.toNat) (kn := i.toInt.toNat) (by have := e.1; omega) (by omega) (by omega) (by omega)
    have en : ((60 * t) + i).toNatClampNeg = 60 * t.toInt.toNat + i.toInt.toNat := by show ((60 * t) + i).toInt.toNat = _; rw [ei]; rfl
    refine ⟨it, mnar_ok _ v hs ⟨_, rfl, hs, inB_iff (by rw [ei]; omega) (by rw [ei]; omega), ?_⟩⟩
    rw [en]
    exact q4 e (by omega) e4
  · have e2 : 0 ≤ (h.2.1 123 t.toInt.toNat).toInt := of_decide_eq_true (cI e2)
    have e3 := bnand (cz2 e3)
    rw [el, j0] at e3
    exact q3 e (by omega) (fun d => e3 ⟨d.1, by have := d.2; omega⟩)
  · have e2 : ¬ 0 ≤ (h.2.1 123 t.toInt.toNat).toInt := of_decide_eq_false (cI e2)
    omega
def WIT : List (Nat × Nat) := [(57, 999), (58, 999), (59, 999), (60, 999), (61, 999), (62, 999), (125, 999)]
theorem WIT_row {t k : Nat} (ht : t < 6) : inW WIT (57 + t) k = true := by
  match t, ht with
  | 0, _ => simp [inW, WIT]
  | 1, _ => simp [inW, WIT]
  | 2, _ => simp [inW, WIT]
  | 3, _ => simp [inW, WIT]
  | 4, _ => simp [inW, WIT]
  | 5, _ => simp [inW, WIT]
  | t + 6, h => omega
theorem WIT_5 {k : Nat} : inW WIT 125 k = true := by simp [inW, WIT]
theorem item_pair (t i : Int32) (v : Int64) (hi : INVE h) {K : Hp → Int32 → Int32 → Prop} (hK : ∀ r h', INVE h' → frm WIT h h' → K h' r r) (hQ : ∀ r h1, HI h1 → REF X (dp + 1 + 1) 201 [.ref 93, .int t, .int i, .long v, .retAddr 0] K r h1 → Q (some (.int r)) h1) : Ends X (dp + 1 + 1) 96 0 [.ref 0, .int t, .int i, .long v, .retAddr 0] [] h Q := by
  have hh := hi.1.1
  obtain ⟨p1, p2, p3, p4, p5, t1, t2, t3, t4, t5⟩ := id hi.2
  have eS : tpOK t → h.2.1 54 t.toInt.toNat = h.2.1 123 t.toInt.toNat := fun c => t1 _ (by have := c.1; have := c.2; omega)
  have eL : tpOK t → h.2.1 55 t.toInt.toNat = h.2.1 124 t.toInt.toNat := fun c => t2 _ (by have := c.1; have := c.2; omega)
  refine citm_ok t i v hh hi.1.2.2.2.2.2.1 (fun c => ?_) (fun c c2 => ?_) (fun c c2 c3 => ?_) (fun c c2 c3 => ?_)
  · exact hQ _ h hh (mitm_ok t i v hh (fun _ => ⟨_, rfl, hh.hs, hK _ h hi frm_refl⟩) (fun d => absurd d c) (fun d => absurd d c) (fun d => absurd d c))
  · rw [eS c] at c2
    exact hQ _ h hh (mitm_ok t i v hh (fun d => absurd c d) (fun _ _ => ⟨_, rfl, hh.hs, hK _ h hi frm_refl⟩) (fun _ d => absurd c2 d) (fun _ d => absurd c2 d))
  · rw [eS c] at c2
    rw [eL c] at c3
    exact hQ _ h hh (mitm_ok t i v hh (fun d => absurd c d) (fun _ d => absurd d c2) (fun _ _ _ => ⟨_, rfl, hh.hs, hK _ h hi frm_refl⟩) (fun _ _ d => absurd d c3))
  · have b5 := hh.iv 55 t.toInt.toNat (r := (0, 60)) rfl
    simp only at b5
    have hn : t.toInt.toNat < 6 := by have := c.1; have := c.2; omega
    have hk : i.toInt.toNat < 60 := by have := c3.1; have := c3.2; omega
    rw [eS c] at c2 ⊢
    rw [eL c] at c3
    obtain ⟨tn, etn⟩ : ∃ tn, t.toInt.toNat = tn := ⟨_, rfl⟩
    obtain ⟨kn, ekn⟩ : ∃ kn, i.toInt.toNat = kn := ⟨_, rfl⟩
    rw [etn] at hn c2 c3 ⊢
    rw [ekn] at hk ⊢
    obtain ⟨x, ex⟩ : ∃ x, sA (h.2.1 123 tn) v = x := ⟨_, rfl⟩
    rw [ex]
    have g1 : HI (hpL h (57 + tn) kn x) := HI_putL hh
    have g2 : HI (hpL (hpL h (57 + tn) kn x) 125 (60 * tn + kn) x) := HI_putL g1
    have f : frm WIT h (hpL (hpL h (57 + tn) kn x) 125 (60 * tn + kn) x) := frm_putL (frm_putL frm_refl (WIT_row hn)) WIT_5
    refine hQ _ _ g1 (mitm_ok t i v g1 (fun d => absurd c d) (fun _ d => absurd d (by rw [etn]; exact c2)) (fun _ _ d => absurd (by rw [etn]; exact c3) d) (fun _ _ _ => ⟨_, rfl, g1.hs, hK _ _ ?_ ?_⟩))
    rotate_left
    · rw [etn, ekn, show sA ((hpL h (57 + tn) kn x).2.1 123 tn) v = x from ex]
      exact f
    rw [etn, ekn, show sA ((hpL h (57 + tn) kn x).2.1 123 tn) v = x from ex]
    refine ⟨INV_fr (W := WIT) (by decide) g2 f hi.1, EK_f (W := WIT) (by decide) f p1, ER_f (W := WIT) (by decide) f p2, EB_f (W := WIT) (by decide) f p3, ES_f (W := WIT) (by decide) f p4, EA_f (W := WIT) (by decide) f p5, t1, t2, fun u k hu hk2 => ?_, t4, fun u k hu hk2 hc => ?_⟩
    · rw [putL_ne (a := 125) (by omega)]
      by_cases d : u = tn ∧ k = kn
      · rw [d.1, d.2, putL_at, putL_at]
      · rw [putL_ne (by omega), putL_ne (by omega), putL_ne (by omega)]
        exact t3 u k hu hk2
    · have hc : (h.2.1 54 u).toInt = 4 := hc
      rw [putL_ne (a := 125) (by omega)]
      by_cases d : u = tn ∧ k = kn
      · rw [d.1, d.2, putL_at, ← ex]
        rw [d.1, t1 tn hn] at hc
        have s4 : h.2.1 123 tn = 4 := Int32.toInt.inj hc
        unfold sA
        rw [s4, if_neg (by decide), if_neg (by decide), if_neg (by decide), if_pos rfl]
        by_cases z : v = 0
        · rw [if_pos z]
          exact Or.inl rfl
        · rw [if_neg z]
          exact Or.inr rfl
      · rw [putL_ne (by omega)]
        exact t5 u k hu hk2 hc
/-! reading -/
theorem crd_ok (t i : Int32) (hh : HI h) (rx : RX h) (q1 : ¬ (tpOK t ∧ iOK i (h.2.1 55 t.toInt.toNat)) → Q (some (.long (-9223372036854775808))) h) (q2 : tpOK t → iOK i (h.2.1 55 t.toInt.toNat) → Q (some (.long (h.2.2.1 (57 + t.toInt.toNat) i.toInt.toNat))) h) : Ends X (dp + 1 + 1) 97 0 [.ref 0, .int t, .int i] [] h Q := by
  have hs := hh.hs
  have b5 := hh.iv 55 t.toInt.toNat (r := (0, 60)) rfl
  simp only at b5
  refine w_crd t i hs (cex_ok t hs ⟨_, rfl, hs, fun e => q1 (fun d => absurd d.1 (bnand (cz e))), fun e => ?_⟩)
  have e : tpOK t := band (cn e)
  have it : inB t 6 = true := inB_iff e.1 (by have := e.2; omega)
  have hn : t.toInt.toNat < 6 := by have := e.1; have := e.2; omega
  refine chpl_ok t i e hh ⟨_, rfl, hs, fun e3 => q1 (fun d => absurd d.2 (bnand (cz e3))), fun e3 => ?_⟩
  have e3 : iOK i (h.2.1 55 t.toInt.toNat) := band (cn e3)
  exact ⟨57 + t.toInt.toNat, it, rx.1 _ hn, by omega, row_A hn, inB_iff e3.1 (by have := e3.2; omega), q2 e e3⟩
theorem mrd_ok (t i : Int32) (hh : HI h) (q1 : ¬ (tpOK t ∧ 0 ≤ (h.2.1 123 t.toInt.toNat).toInt ∧ iOK i (h.2.1 124 t.toInt.toNat)) → Q (some (.long (-9223372036854775808))) h) (q2 : tpOK t → iOK i (h.2.1 124 t.toInt.toNat) → Q (some (.long (h.2.2.1 125 (60 * t.toInt.toNat + i.toInt.toNat)))) h) : Ends X (dp + 1 + 1) 202 0 [.ref 93, .int t, .int i] [] h Q := by
  have hs := hh.hs
  have b5 := hh.iv 124 t.toInt.toNat (r := (0, 60)) rfl
  have j0 : (0 : Int32).toInt = 0 := rfl
  simp only at b5
  have el : (h.2.1 124 t.toNatClampNeg - 1).toInt = (h.2.1 124 t.toInt.toNat).toInt - 1 := by
    show (h.2.1 124 t.toInt.toNat - 1).toInt = _
    rw [i_sub (by rw [i1]; omega) (by rw [i1]; omega), i1]
  refine w_mrd t i hs (tape_ok t hs ⟨_, rfl, hs, fun e => q1 (fun d => absurd d.1 (bnand (cz e))), fun e => ?_⟩)
  have e : tpOK t := band (cn e)
  have it : inB t 6 = true := inB_iff e.1 (by have := e.2; omega)
  refine ⟨it, fun e2 => q1 (fun d => ?_), fun e2 => ⟨it, in_ok _ _ _ hs ⟨_, rfl, hs, fun e3 => ?_, fun e3 => q1 (fun d => ?_)⟩⟩⟩
  · have e2 : (h.2.1 123 t.toInt.toNat).toInt < 0 := of_decide_eq_true (cI e2)
    have := d.2.1
    omega
  · have e3 := band (cn2 e3)
    rw [el, j0] at e3
    have e4 : iOK i (h.2.1 124 t.toInt.toNat) := ⟨e3.1, by omega⟩
    have ei := idx60 (t := t) (k := i) (tn := t.toInt.toNat) (kn := i.toInt.toNat) (by have := e.1; omega) (by omega) (by have := e.2; omega) (by omega)
    have en : ((60 * t) + i).toNatClampNeg = 60 * t.toInt.toNat + i.toInt.toNat := by show ((60 * t) + i).toInt.toNat = _; rw [ei]; rfl
    refine ⟨inB_iff (by rw [ei]; omega) (by rw [ei]; have := e.2; omega), ?_⟩
    rw [en]
    exact q2 e e4
  · have e3 := bnand (cz2 e3)
    rw [el, j0] at e3
    exact e3 ⟨d.2.2.1, by have := d.2.2.2; omega⟩
def REFL (X : Scr) (dp y : Nat) (L : List Value) (K : Hp → Int64 → Int64 → Prop) (r : Int64) (h1 : Hp) : Prop := Ends X dp y 0 L [] h1 (fun w h2 => ∃ r2, w = some (.long r2) ∧ HS h2 ∧ K h2 r r2)
theorem read_pair (t i : Int32) (hi : INVE h) {K : Hp → Int64 → Int64 → Prop} (hK : ∀ r h', INVE h' → frm [] h h' → K h' r r) (hQ : ∀ r h1, HI h1 → REFL X (dp + 1 + 1) 202 [.ref 93, .int t, .int i] K r h1 → Q (some (.long r)) h1) : Ends X (dp + 1 + 1) 97 0 [.ref 0, .int t, .int i] [] h Q := by
  have hh := hi.1.1
  obtain ⟨p1, p2, p3, p4, p5, t1, t2, t3, t4, -⟩ := id hi.2
  have eS : tpOK t → h.2.1 54 t.toInt.toNat = h.2.1 123 t.toInt.toNat := fun c => t1 _ (by have := c.1; have := c.2; omega)
  have eL : tpOK t → h.2.1 55 t.toInt.toNat = h.2.1 124 t.toInt.toNat := fun c => t2 _ (by have := c.1; have := c.2; omega)
  refine crd_ok t i hh hi.1.2.2.2.2.2.1 (fun c => ?_) (fun c c2 => ?_)
  · exact hQ _ h hh (mrd_ok t i hh (fun _ => ⟨_, rfl, hh.hs, hK _ h hi frm_refl⟩) (fun d d2 => absurd ⟨d, by rw [eL d]; exact d2⟩ c))
  · have hn : t.toInt.toNat < 6 := by have := c.1; have := c.2; omega
    have b := hh.iv 54 t.toInt.toNat (r := (-1, 4)) rfl
    have b5 := hh.iv 55 t.toInt.toNat (r := (0, 60)) rfl
    simp only at b b5
    have c3 : 0 ≤ (h.2.1 123 t.toInt.toNat).toInt := by
      rw [← eS c]
      by_cases d : (h.2.1 54 t.toInt.toNat).toInt = -1
      · exfalso
        have q := t4 _ hn d
        have c5 := c2.2
        have c6 := c2.1
        rw [q] at c5
        have z : (0 : Int32).toInt = 0 := rfl
        omega
      · omega
    have hk : i.toInt.toNat < 60 := by have := c2.1; have := c2.2; omega
    rw [t3 _ _ hn hk]
    rw [eL c] at c2
    exact hQ _ h hh (mrd_ok t i hh (fun d => absurd ⟨c, c3, c2⟩ d) (fun _ _ => ⟨_, rfl, hh.hs, hK _ h hi frm_refl⟩))
/-! shift -/
theorem shAns_eq {S L S' L' : Nat → Int32} {t i o j n : Int32} (hS : ∀ k, k < 6 → S k = S' k) (hL : ∀ k, k < 6 → L k = L' k) : shAns S L t i o j n = shAns S' L' t i o j n := by
  unfold shAns
  by_cases c : 0 ≤ t.toInt ∧ t.toInt ≤ 5
  · by_cases d : 0 ≤ o.toInt ∧ o.toInt ≤ 5
    · rw [hS t.toInt.toNat (by omega), hS o.toInt.toNat (by omega), hL t.toInt.toNat (by omega), hL o.toInt.toNat (by omega)]
    · rw [if_neg (Decidable.not_not.mpr c), if_neg (Decidable.not_not.mpr c), if_pos d, if_pos d]
  · rw [if_pos c, if_pos c]
theorem shAns_ok {S L : Nat → Int32} {t i o j n : Int32} (h : (shAns S L t i o j n).2 = true) : (0 ≤ t.toInt ∧ t.toInt ≤ 5) ∧ (0 ≤ o.toInt ∧ o.toInt ≤ 5) ∧ (0 ≤ i.toInt ∧ 0 ≤ n.toInt ∧ i.toInt + n.toInt ≤ (L t.toInt.toNat).toInt) ∧ 0 ≤ j.toInt ∧ 0 ≤ n.toInt ∧ j.toInt + n.toInt ≤ (L o.toInt.toNat).toInt := by
  unfold shAns at h
  split at h
  · cases h
  · rename_i c1
    split at h
    · cases h
    · rename_i c2
      split at h
      · cases h
      · split at h
        · cases h
        · split at h
          · cases h
          · split at h
            · cases h
            · rename_i c3
              split at h
              · cases h
              · rename_i c4
                exact ⟨Decidable.not_not.mp c1, Decidable.not_not.mp c2, Decidable.not_not.mp c3, Decidable.not_not.mp c4⟩
theorem shAns_s {S L : Nat → Int32} {t i o j n : Int32} (h : (shAns S L t i o j n).2 = true) : S t.toInt.toNat = S o.toInt.toNat := by
  unfold shAns at h
  split at h
  · cases h
  · split at h
    · cases h
    · split at h
      · cases h
      · split at h
        · cases h
        · split at h
          · cases h
          · rename_i c
            exact Int32.toInt.inj (Decidable.not_not.mp c)
def WSF : List (Nat × Nat) := [(57, 999), (58, 999), (59, 999), (60, 999), (61, 999), (62, 999), (125, 999), (126, 999)]
theorem WSF_row {t k : Nat} (ht : t < 6) : inW WSF (57 + t) k = true := by
  match t, ht with
  | 0, _ => simp [inW, WSF]
  | 1, _ => simp [inW, WSF]
  | 2, _ => simp [inW, WSF]
  | 3, _ => simp [inW, WSF]
  | 4, _ => simp [inW, WSF]
  | 5, _ => simp [inW, WSF]
  | t + 6, h => omega
theorem shift_pair (t i o j n : Int32) (hi : INVE h) {K : Hp → Int32 → Int32 → Prop} (hK : ∀ r h', INVE h' → frm WSF h h' → K h' r r) (hQ : ∀ r h1, HI h1 → REF X (dp + 1 + 1) 203 [.ref 93, .int t, .int i, .int o, .int j, .int n, .retAddr 0] K r h1 → Q (some (.int r)) h1) : Ends X (dp + 1 + 1) 98 0 [.ref 0, .int t, .int i, .int o, .int j, .int n] [] h Q := by
  have hh := hi.1.1
  obtain ⟨p1, p2, p3, p4, p5, t1, t2, t3, t4, t5⟩ := id hi.2
  have ea : shAns (h.2.1 54) (h.2.1 55) t i o j n = shAns (h.2.1 123) (h.2.1 124) t i o j n := shAns_eq t1 t2
  refine csh_ok t i o j n hh hi.1.2.2.2.2.2.1 ?_
  by_cases c : (shAns (h.2.1 54) (h.2.1 55) t i o j n).2 = true
  · rw [if_pos c]
    have b5 := hh.iv 55 t.toInt.toNat (r := (0, 60)) rfl
    have b6 := hh.iv 55 o.toInt.toNat (r := (0, 60)) rfl
    simp only at b5 b6
    obtain ⟨d1, d2, d3, d4⟩ := shAns_ok c
    obtain ⟨tn, etn⟩ : ∃ tn, t.toInt.toNat = tn := ⟨_, rfl⟩
    obtain ⟨on, eon⟩ : ∃ on, o.toInt.toNat = on := ⟨_, rfl⟩
    obtain ⟨i', ei⟩ : ∃ i', i.toInt.toNat = i' := ⟨_, rfl⟩
    obtain ⟨j', ej⟩ : ∃ j', j.toInt.toNat = j' := ⟨_, rfl⟩
    obtain ⟨n', en⟩ : ∃ n', n.toInt.toNat = n' := ⟨_, rfl⟩
    have ht6 : tn < 6 := by omega
    have ho6 : on < 6 := by omega
    have hi6 : i' + n' ≤ 60 := by omega
    have hj6 : j' + n' ≤ 60 := by omega
    rw [etn, eon, ei, ej, en, ea]
    have c' : (shAns (h.2.1 123) (h.2.1 124) t i o j n).2 = true := by rw [← ea]; exact c
    have g1 : HI (hpC h (57 + on) (57 + tn) i' j' n') := hh
    have f1 : frm WSF h (hpC h (57 + on) (57 + tn) i' j' n') := by
      intro a k hk
      refine ⟨rfl, ?_, rfl⟩
      show (if a = 57 + on then _ else h.2.2.1 a) k = _
      rw [if_neg]
      intro q
      rw [q, WSF_row ho6] at hk
      cases hk
    refine hQ _ _ g1 (msh_ok t i o j n g1 (fun h2 y1 y2 _ y3 => ⟨_, rfl, y1.hs, hK _ h2 ?_ (frm_trans f1 (frm_mono (by decide) y2))⟩))
    have y3 := y3 c'
    rw [etn, eon, ei, ej, en] at y3
    have f : frm WSF h h2 := frm_trans f1 (frm_mono (by decide) y2)
    refine ⟨INV_fr (W := WSF) (by decide) y1 f hi.1, EK_f (W := WSF) (by decide) f p1, ER_f (W := WSF) (by decide) f p2, EB_f (W := WSF) (by decide) f p3, ES_f (W := WSF) (by decide) f p4, EA_f (W := WSF) (by decide) f p5, eqr_fr (fun j => frI f (by simp [inW, WSF])) (fun j => frI f (by simp [inW, WSF])) t1, eqr_fr (fun j => frI f (by simp [inW, WSF])) (fun j => frI f (by simp [inW, WSF])) t2, fun u k hu hk => ?_, fun u hu q => ?_, fun u k hu hk q => ?_⟩
    · have a1 : h2.2.2.1 (57 + u) k = (hpC h (57 + on) (57 + tn) i' j' n').2.2.1 (57 + u) k := (y2 (57 + u) k (by simp [inW, WSh]; omega)).2.1
      have n125 : ¬ 125 = 57 + on := by omega
      have e125 : (hpC h (57 + on) (57 + tn) i' j' n').2.2.1 125 = h.2.2.1 125 := by
        show (if 125 = 57 + on then _ else h.2.2.1 125) = _
        rw [if_neg n125]
      rw [a1, y3, e125]
      show (if 57 + u = 57 + on then va_cpy (h.2.2.1 (57 + tn)) (h.2.2.1 (57 + on)) i' j' n' else h.2.2.1 (57 + u)) k = va_cpy (h.2.2.1 125) (h.2.2.1 125) (60 * tn + i') (60 * on + j') n' (60 * u + k)
      unfold va_cpy
      by_cases d : u = on
      · rw [if_pos (by omega)]
        by_cases d5 : j' ≤ k ∧ k < j' + n'
        · have e7 : 60 * tn + i' + (60 * u + k - (60 * on + j')) = 60 * tn + (i' + (k - j')) := by omega
          rw [if_pos d5, if_pos (by omega), t3 tn (i' + (k - j')) ht6 (by omega), e7]
        · rw [if_neg d5, if_neg (by omega), ← d]
          exact t3 u k hu hk
      · rw [if_neg (by omega), if_neg (by omega)]
        exact t3 u k hu hk
    · rw [frI f (a := 54) (by simp [inW, WSF])] at q
      rw [frI f (a := 55) (by simp [inW, WSF])]
      exact t4 u hu q
    · rw [frI f (a := 54) (by simp [inW, WSF])] at q
      have a1 : h2.2.2.1 (57 + u) k = (hpC h (57 + on) (57 + tn) i' j' n').2.2.1 (57 + u) k := (y2 (57 + u) k (by simp [inW, WSh]; omega)).2.1
      have a2 : (hpC h (57 + on) (57 + tn) i' j' n').2.2.1 (57 + u) k = (if 57 + u = 57 + on then va_cpy (h.2.2.1 (57 + tn)) (h.2.2.1 (57 + on)) i' j' n' else h.2.2.1 (57 + u)) k := rfl
      rw [a1, a2]
      unfold va_cpy
      by_cases d : u = on
      · rw [if_pos (by omega)]
        by_cases d5 : j' ≤ k ∧ k < j' + n'
        · rw [if_pos d5]
          have es := shAns_s c
          rw [etn, eon] at es
          exact t5 tn _ ht6 (by omega) (by rw [es, ← d]; exact q)
        · rw [if_neg d5, ← d]
          exact t5 u k hu hk q
      · rw [if_neg (by omega)]
        exact t5 u k hu hk q
  · rw [if_neg c, ea]
    have c' : (shAns (h.2.1 123) (h.2.1 124) t i o j n).2 = false := by rw [← ea]; exact Bool.not_eq_true _ ▸ c
    exact hQ _ h hh (msh_ok t i o j n hh (fun h2 y1 y2 y3 _ => ⟨_, rfl, y1.hs, by rw [y3 c']; exact hK _ h hi frm_refl⟩))
end TAPES
