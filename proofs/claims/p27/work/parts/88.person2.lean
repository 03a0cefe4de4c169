/-! person of both sides, exactly. -/
theorem Ends.and {X : Scr} {dp y pc : Nat} {L st : List Value} {h : Hp} {Q Q' : Option Value → Hp → Prop} (e : Ends X dp y pc L st h Q) (e' : Ends X dp y pc L st h Q') : Ends X dp y pc L st h (fun v h' => Q v h' ∧ Q' v h') := by
  obtain ⟨n, v, h1, r1, q1⟩ := e
  obtain ⟨m, w, h2, r2, q2⟩ := e'
  have a := run_le (Nat.le_max_left n m) r1
  have b := run_le (Nat.le_max_right n m) r2
  rw [a] at b
  cases b
  exact ⟨n, v, h1, r1, q1, q2⟩
def inR (x : Int32) (lo hi : Int) : Bool := decide (lo ≤ x.toInt) && decide (x.toInt ≤ hi)
/-- what person answers -/
def perAns (sz k v l p s : Int32) : Int32 := if inR k 0 6 = false then -1 else if (inR v 0 9 && inR l 0 6 && inR p 0 9 && inR s 0 9) = false then -2 else if sz.toInt = 7 then -4 else sz
def perOK (sz k v l p s : Int32) : Bool := inR k 0 6 && (inR v 0 9 && inR l 0 6 && inR p 0 9 && inR s 0 9) && !decide (sz.toInt = 7)
/-- one more in the class's group -/
def joinH (h : Hp) (k v l p s : Int32) : Hp := hpI (hpI (hpI (hpI (hpI (hpI h 2 (h.2.1 1 0).toInt.toNat k) 3 (h.2.1 1 0).toInt.toNat v) 4 (h.2.1 1 0).toInt.toNat l) 5 (h.2.1 1 0).toInt.toNat p) 6 (h.2.1 1 0).toInt.toNat s) 1 0 (h.2.1 1 0 + 1)
section PER
variable {X : Scr} {dp : Nat} {h : Hp} {Q : Option Value → Hp → Prop}
theorem isDigit_ok (n : Int32) (hs : HS h) (hQ : Q (some (.int (b2i (inR n 0 9)))) h) : Ends X dp 102 0 [.int n] [] h Q := by
  unfold inR at hQ
  refine w_isDigit n hs ⟨fun e => ?_, fun e => ⟨fun e2 => ?_, fun e2 => ?_⟩⟩
  · have e : n.toInt < 0 := of_decide_eq_true (cI e)
    rwa [decide_eq_false (by omega : ¬ 0 ≤ n.toInt)] at hQ
  · have e : ¬ n.toInt < 0 := of_decide_eq_false (cI e)
    have e2 : 9 < n.toInt := of_decide_eq_true (cI e2)
    rwa [decide_eq_true (by omega : 0 ≤ n.toInt), decide_eq_false (by omega : ¬ n.toInt ≤ 9)] at hQ
  · have e : ¬ n.toInt < 0 := of_decide_eq_false (cI e)
    have e2 : ¬ 9 < n.toInt := of_decide_eq_false (cI e2)
    rwa [decide_eq_true (by omega : 0 ≤ n.toInt), decide_eq_true (by omega : n.toInt ≤ 9)] at hQ
theorem isLane_ok (n : Int32) (hs : HS h) (hQ : Q (some (.int (b2i (inR n 0 6)))) h) : Ends X dp 103 0 [.int n] [] h Q := by
  unfold inR at hQ
  refine w_isLane n hs ⟨fun e => ?_, fun e => ⟨fun e2 => ?_, fun e2 => ?_⟩⟩
  · have e : n.toInt < 0 := of_decide_eq_true (cI e)
    rwa [decide_eq_false (by omega : ¬ 0 ≤ n.toInt)] at hQ
  · have e : ¬ n.toInt < 0 := of_decide_eq_false (cI e)
    have e2 : 7 ≤ n.toInt := of_decide_eq_true (cI e2)
    rwa [decide_eq_true (by omega : 0 ≤ n.toInt), decide_eq_false (by omega : ¬ n.toInt ≤ 6)] at hQ
  · have e : ¬ n.toInt < 0 := of_decide_eq_false (cI e)
    have e2 : ¬ 7 ≤ n.toInt := of_decide_eq_false (cI e2)
    rwa [decide_eq_true (by omega : 0 ≤ n.toInt), decide_eq_true (by omega : n.toInt ≤ 6)] at hQ
theorem joins_ok (k v l p s : Int32) (hh : HI h) (h7 : (h.2.1 1 0).toInt = 7 → Q (some (.int (-4))) h) (hn : ¬ (h.2.1 1 0).toInt = 7 → Q (some (.int (h.2.1 1 0))) (joinH h k v l p s)) : Ends X dp 31 0 [.ref 1, .int k, .int v, .int l, .int p, .int s, .retAddr 0] [] h Q := by
  have b := hh.iv 1 0 (r := (0, 7)) rfl
  simp only at b
  refine w_joins k v l p s hh.hs ⟨fun e => ?_, fun e => ⟨fun e2 => ?_, fun e2 => ?_⟩⟩
  · exfalso
    have e : (h.2.1 1 0).toInt < 0 := of_decide_eq_true (cI e)
    omega
  · have e2 : (h.2.1 1 0).toInt < 7 := of_decide_eq_true (cI e2)
    have i : inB (h.2.1 1 0) 7 = true := inB_iff (by omega) (by omega)
    exact ⟨i, i, i, i, i, hn (by omega)⟩
  · have e2 : ¬ (h.2.1 1 0).toInt < 7 := of_decide_eq_false (cI e2)
    exact h7 (by omega)
theorem cper_ok (k v l p s : Int32) (hh : HI h) (hQ : Q (some (.int (perAns (h.2.1 1 0) k v l p s))) (if perOK (h.2.1 1 0) k v l p s = true then joinH h k v l p s else h)) : Ends X (dp + 1) 63 0 [.ref 0, .int k, .int v, .int l, .int p, .int s] [] h Q := by
  have hs := hh.hs
  unfold perAns perOK at hQ
  have i7 : (7 : Int32).toInt = 7 := rfl
  have kb : ∀ b : Bool, inR k 0 6 = b → True := fun _ _ => trivial
  refine w_cper k v l p s hs ⟨fun e => ?_, fun e => ⟨fun e2 => isDigit_ok v hs ⟨_, rfl, hs, fun a1 => ?_, fun a1 => isLane_ok l hs ⟨_, rfl, hs, fun a2 => ?_, fun a2 => isDigit_ok p hs ⟨_, rfl, hs, fun a3 => ?_, fun a3 => isDigit_ok s hs ⟨_, rfl, hs, fun a4 => ?_, fun a4 => ?_⟩⟩⟩⟩, fun e2 => ?_⟩⟩
  · have e : k.toInt < 0 := of_decide_eq_true (cI e)
    have : inR k 0 6 = false := by unfold inR; rw [decide_eq_false (by omega : ¬ 0 ≤ k.toInt)]; rfl
    rw [this] at hQ
    exact hQ
  all_goals have e : ¬ k.toInt < 0 := of_decide_eq_false (cI e)
  all_goals try
    have e2 : k.toInt < 7 := of_decide_eq_true (cI e2)
    have hk : inR k 0 6 = true := by unfold inR; rw [decide_eq_true (by omega : 0 ≤ k.toInt), decide_eq_true (by omega : k.toInt ≤ 6)]; rfl
    rw [hk] at hQ
  · have a1 := cz a1
    rw [a1] at hQ
    exact hQ
  · have a1 := cn a1
    have a2 := cz a2
    rw [a1, a2] at hQ
    exact hQ
  · have a1 := cn a1
    have a2 := cn a2
    have a3 := cz a3
    rw [a1, a2, a3] at hQ
    exact hQ
  · have a1 := cn a1
    have a2 := cn a2
    have a3 := cn a3
    have a4 := cn2 a4
    rw [a1, a2, a3, a4] at hQ
    refine joins_ok k v l p s hh (fun q => ⟨_, rfl, hs, ?_⟩) (fun q => ⟨_, rfl, hs, ?_⟩)
    · simpa [q] using hQ
    · simpa [q] using hQ
  · have a1 := cn a1
    have a2 := cn a2
    have a3 := cn a3
    have a4 := cz2 a4
    rw [a1, a2, a3, a4] at hQ
    exact hQ
  · have e2 : ¬ k.toInt < 7 := of_decide_eq_false (cI e2)
    have : inR k 0 6 = false := by unfold inR; rw [decide_eq_false (by omega : ¬ k.toInt ≤ 6), Bool.and_false]
    rw [this] at hQ
    exact hQ
/-- one more in the reference -/
def PER (h h' : Hp) (k v l q s : Int32) : Prop := h'.2.1 93 0 = h.2.1 93 0 + 1 ∧ h'.2.1 93 2 = h.2.1 93 2 &&& ((1 <<< (h.2.1 93 0 &&& 31)) ^^^ (-1)) ∧
  (∀ j, h'.2.1 94 j = if j = (h.2.1 93 0).toInt.toNat then k else h.2.1 94 j) ∧ (∀ j, h'.2.1 95 j = if j = (h.2.1 93 0).toInt.toNat then v else h.2.1 95 j) ∧ (∀ j, h'.2.1 96 j = if j = (h.2.1 93 0).toInt.toNat then l else h.2.1 96 j) ∧
  (∀ j, h'.2.1 97 j = if j = (h.2.1 93 0).toInt.toNat then q else h.2.1 97 j) ∧ (∀ j, h'.2.1 98 j = if j = (h.2.1 93 0).toInt.toNat then s else h.2.1 98 j) ∧
  (∀ j, h'.2.1 99 j = if 4 * (h.2.1 93 0).toInt.toNat ≤ j ∧ j < 4 * (h.2.1 93 0).toInt.toNat + 4 then 0 else h.2.1 99 j)
def WPE : List (Nat × Nat) := [(93, 0), (93, 2), (94, 999), (95, 999), (96, 999), (97, 999), (98, 999), (99, 999)]
theorem WPE_in {a k : Nat} (h : (a == 94 || a == 95 || a == 96 || a == 97 || a == 98 || a == 99) = true) : inW WPE a k = true := by
  simp only [Bool.or_eq_true, beq_iff_eq] at h
  rcases h with ((((rfl | rfl) | rfl) | rfl) | rfl) | rfl <;> simp [inW, WPE]
theorem put_if {h : Hp} {a k j : Nat} {x : Int32} : (hpI h a k x).2.1 a j = if j = k then x else h.2.1 a j := by
  by_cases c : j = k
  · rw [if_pos c, c, put_at]
  · rw [if_neg c, put_ne (by omega)]
theorem i4 : (4 : Int32).toInt = 4 := rfl
theorem mper_loop (h0 h1 : Hp) (k v l q s : Int32) (pn : Nat) (hp : (h1.2.1 93 0).toInt = pn) (hpn : pn ≤ 6) (hb : 0 ≤ (h1.2.1 93 2).toInt ∧ (h1.2.1 93 2).toInt ≤ 127)
    (hQ : ∀ h', HI h' → frm WPE h0 h' → h'.2.1 93 0 = h1.2.1 93 0 + 1 → h'.2.1 93 2 = h1.2.1 93 2 &&& ((1 <<< (h1.2.1 93 0 &&& 31)) ^^^ (-1)) → (∀ a j, (a == 94 || a == 95 || a == 96 || a == 97 || a == 98) = true → h'.2.1 a j = h1.2.1 a j) → (∀ j, h'.2.1 99 j = if 4 * pn ≤ j ∧ j < 4 * pn + 4 then 0 else h1.2.1 99 j) → Q (some (.int (h1.2.1 93 0))) h') :
    ∀ (m i_n : Nat) (i : Int32) (h : Hp), HI h → frm WPE h0 h → i.toInt = i_n → i_n + m = 4 → h.2.1 93 0 = h1.2.1 93 0 → h.2.1 93 2 = h1.2.1 93 2 → (∀ a j, (a == 94 || a == 95 || a == 96 || a == 97 || a == 98) = true → h.2.1 a j = h1.2.1 a j) → (∀ j, h.2.1 99 j = if 4 * pn ≤ j ∧ j < 4 * pn + i_n then 0 else h1.2.1 99 j) →
    Ends X dp 114 129 [.ref 93, .int k, .int v, .int l, .int q, .int s, .int i] [] h Q
  | m, i_n, i, h, hh, hf, hi, hm, e0, e2, ea, e99 => by
    refine w_mper1 k v l q s i hh.hs ⟨fun e => ?_, fun e => ?_⟩
    · have e : 4 ≤ i.toInt := of_decide_eq_true (cI e)
      have hi4 : i_n = 4 := by omega
      rw [e0, e2]
      have g : (h1.2.1 93 0 + 1).toInt = ((pn + 1 : Nat) : Int) := by rw [i_add (by rw [i1]; omega) (by rw [i1]; omega), i1]; omega
      have g2 : h1.2.1 93 0 + 1 - 1 = h1.2.1 93 0 := by
        apply Int32.toInt.inj
        rw [i_sub (by rw [i1]; omega) (by rw [i1]; omega), i1]
        omega
      rw [g2]
      generalize hu : h1.2.1 93 0 + 1 = u at g
      have a1 := i_and1 (x := h1.2.1 93 2) (y := (1 <<< (h1.2.1 93 0 &&& 31)) ^^^ (-1)) hb.1
      generalize hz : h1.2.1 93 2 &&& ((1 <<< (h1.2.1 93 0 &&& 31)) ^^^ (-1)) = z at a1
      refine hQ _ (HI_put (HI_put hh (by show (0 : Int) ≤ _; omega) (by show _ ≤ (127 : Int); omega)) (by show (0 : Int) ≤ _; omega) (by show _ ≤ (7 : Int); omega)) (frm_put (frm_put hf rfl) rfl) ?_ ?_ (fun a j ha => ?_) (fun j => ?_)
      · rw [put_at, hu]
      · rw [put_ne (by omega), put_at, hz]
      · have : a ≠ 93 := by rintro rfl; cases ha
        rw [put_ne (by omega), put_ne (by omega)]
        exact ea a j ha
      · rw [put_ne (by omega), put_ne (by omega), e99 j, hi4]
    · have e : ¬ 4 ≤ i.toInt := of_decide_eq_false (cI e)
      match m, hm with
      | 0, hm => omega
      | m + 1, hm =>
        have hi1 : (i + 1).toInt = ((i_n + 1 : Nat) : Int) := by rw [i_add (by rw [i1]; omega) (by rw [i1]; omega), i1]; omega
        generalize i + 1 = i2 at hi1 ⊢
        rw [e0]
        have g : (4 * h1.2.1 93 0).toInt = ((4 * pn : Nat) : Int) := by rw [i_mul (by rw [i4]; omega) (by rw [i4]; omega), i4, hp]; omega
        generalize 4 * h1.2.1 93 0 = u at g ⊢
        have g2 : (u + i).toInt = ((4 * pn + i_n : Nat) : Int) := by rw [i_add (by omega) (by omega)]; omega
        generalize u + i = y at g2 ⊢
        have qy : y.toNatClampNeg = 4 * pn + i_n := by show y.toInt.toNat = _; omega
        refine ⟨inB_iff (by omega) (by omega), ?_⟩
        rw [qy]
        refine mper_loop h0 h1 k v l q s pn hp hpn hb hQ m (i_n + 1) i2 _ (HI_put hh (by show (0 : Int) ≤ 0; decide) (by show (0 : Int) ≤ 6; decide)) (frm_put hf (WPE_in rfl)) hi1 (by omega) (by rw [put_ne (by omega)]; exact e0) (by rw [put_ne (by omega)]; exact e2) (fun a j ha => ?_) (fun j => ?_)
        · have : a ≠ 99 := by rintro rfl; cases ha
          rw [put_ne (by omega)]
          exact ea a j ha
        · rw [put_if, e99 j]
          by_cases c : j = 4 * pn + i_n
          · rw [if_pos c, if_pos (by omega)]
          · rw [if_neg c]
            by_cases d : 4 * pn ≤ j ∧ j < 4 * pn + i_n
            · rw [if_pos d, if_pos (by omega)]
            · rw [if_neg d, if_neg (by omega)]
theorem mper_ok (k v l q s : Int32) (hh : HI h) (hQ : ∀ h', HI h' → frm WPE h h' → (if perOK (h.2.1 93 0) k v l q s = true then PER h h' k v l q s else h' = h) → Q (some (.int (perAns (h.2.1 93 0) k v l q s))) h') : Ends X (dp + 1) 114 0 [.ref 93, .int k, .int v, .int l, .int q, .int s, .retAddr 0] [] h Q := by
  have hs := hh.hs
  have no : perOK (h.2.1 93 0) k v l q s = false → Q (some (.int (perAns (h.2.1 93 0) k v l q s))) h := fun e => hQ h hh frm_refl (by rw [if_neg (by rw [e]; decide)])
  unfold perAns perOK at no hQ
  have inE : ∀ (x lo hi : Int32) (a b : Int), lo.toInt = a → hi.toInt = b → (decide (lo.toInt ≤ x.toInt) && decide (x.toInt ≤ hi.toInt)) = inR x a b := fun x lo hi a b h1 h2 => by rw [h1, h2]; rfl
  refine w_mper0 k v l q s hs (in_ok _ _ _ hs ⟨_, rfl, hs, fun a0 => in_ok _ _ _ hs ⟨_, rfl, hs, fun a1 => ?_, fun a1 => in_ok _ _ _ hs ⟨_, rfl, hs, fun a2 => ?_, fun a2 => in_ok _ _ _ hs ⟨_, rfl, hs, fun a3 => ?_, fun a3 => in_ok _ _ _ hs ⟨_, rfl, hs, fun a4 => ⟨fun a5 => ?_, fun a5 => ?_⟩, fun a4 => ?_⟩⟩⟩⟩, fun a0 => ?_⟩)
  · have a0 := cn2 a0
    have a1 := cz a1
    rw [inE k 0 6 0 6 rfl rfl] at a0
    rw [inE v 0 9 0 9 rfl rfl] at a1
    rw [a0, a1] at no
    exact no rfl
  · have a0 := cn2 a0
    have a1 := cn a1
    have a2 := cz a2
    rw [inE k 0 6 0 6 rfl rfl] at a0
    rw [inE v 0 9 0 9 rfl rfl] at a1
    rw [inE l 0 6 0 6 rfl rfl] at a2
    rw [a0, a1, a2] at no
    exact no rfl
  · have a0 := cn2 a0
    have a1 := cn a1
    have a2 := cn a2
    have a3 := cz a3
    rw [inE k 0 6 0 6 rfl rfl] at a0
    rw [inE v 0 9 0 9 rfl rfl] at a1
    rw [inE l 0 6 0 6 rfl rfl] at a2
    rw [inE q 0 9 0 9 rfl rfl] at a3
    rw [a0, a1, a2, a3] at no
    exact no rfl
  · have a0 := cn2 a0
    have a1 := cn a1
    have a2 := cn a2
    have a3 := cn a3
    have a4 := cn2 a4
    rw [inE k 0 6 0 6 rfl rfl] at a0
    rw [inE v 0 9 0 9 rfl rfl] at a1
    rw [inE l 0 6 0 6 rfl rfl] at a2
    rw [inE q 0 9 0 9 rfl rfl] at a3
    rw [inE s 0 9 0 9 rfl rfl] at a4
    have a5 : ¬ (h.2.1 93 0).toInt = 7 := of_decide_eq_true (cI a5)
    rw [a0, a1, a2, a3, a4, decide_eq_false a5, if_neg a5] at hQ
    have b := hh.iv 93 0 (r := (0, 7)) rfl
    have bc := hh.iv 93 2 (r := (0, 127)) rfl
    simp only at b bc
    have i : inB (h.2.1 93 0) 7 = true := inB_iff (by omega) (by omega)
    refine ⟨i, i, i, i, i, ?_⟩
    have qn : (h.2.1 93 0).toNatClampNeg = (h.2.1 93 0).toInt.toNat := rfl
    rw [qn]
    unfold inR at a0 a1 a2 a3 a4
    simp only [Bool.and_eq_true, decide_eq_true_eq] at a0 a1 a2 a3 a4
    generalize hpv : (h.2.1 93 0).toInt.toNat = pn at *
    have hh1 : HI (hpI (hpI (hpI (hpI (hpI h 94 pn k) 95 pn v) 96 pn l) 97 pn q) 98 pn s) := HI_put (HI_put (HI_put (HI_put (HI_put hh a0.1 a0.2) a1.1 a1.2) a2.1 a2.2) a3.1 a3.2) a4.1 a4.2
    have f1 : frm WPE h (hpI (hpI (hpI (hpI (hpI h 94 pn k) 95 pn v) 96 pn l) 97 pn q) 98 pn s) := frm_put (frm_put (frm_put (frm_put (frm_put frm_refl (WPE_in rfl)) (WPE_in rfl)) (WPE_in rfl)) (WPE_in rfl)) (WPE_in rfl)
    have c0 : (hpI (hpI (hpI (hpI (hpI h 94 pn k) 95 pn v) 96 pn l) 97 pn q) 98 pn s).2.1 93 0 = h.2.1 93 0 := by rw [put_ne (by omega), put_ne (by omega), put_ne (by omega), put_ne (by omega), put_ne (by omega)]
    have c2 : (hpI (hpI (hpI (hpI (hpI h 94 pn k) 95 pn v) 96 pn l) 97 pn q) 98 pn s).2.1 93 2 = h.2.1 93 2 := by rw [put_ne (by omega), put_ne (by omega), put_ne (by omega), put_ne (by omega), put_ne (by omega)]
    refine mper_loop h _ k v l q s pn (by rw [c0]; omega) (by omega) (by rw [c2]; exact bc) (fun h' z1 z2 z3 z4 z5 z6 => ?_) 4 0 0 _ hh1 f1 rfl (by omega) rfl rfl (fun _ _ _ => rfl) (fun j => by rw [if_neg (by omega)])
    rw [c0] at z3 z4 ⊢
    rw [c2] at z4
    refine hQ h' z1 z2 ?_
    rw [if_pos (by decide)]
    refine ⟨z3, z4, fun j => ?_, fun j => ?_, fun j => ?_, fun j => ?_, fun j => ?_, fun j => ?_⟩
    · rw [z5 94 j rfl, hpv, put_ne (by omega), put_ne (by omega), put_ne (by omega), put_ne (by omega), put_if]
    · rw [z5 95 j rfl, hpv, put_ne (by omega), put_ne (by omega), put_ne (by omega), put_if, put_ne (by omega)]
    · rw [z5 96 j rfl, hpv, put_ne (by omega), put_ne (by omega), put_if, put_ne (by omega), put_ne (by omega)]
    · rw [z5 97 j rfl, hpv, put_ne (by omega), put_if, put_ne (by omega), put_ne (by omega), put_ne (by omega)]
    · rw [z5 98 j rfl, hpv, put_if, put_ne (by omega), put_ne (by omega), put_ne (by omega), put_ne (by omega)]
    · rw [z6 j, hpv]
      split
      · rfl
      · rw [put_ne (by omega), put_ne (by omega), put_ne (by omega), put_ne (by omega), put_ne (by omega)]
  · have a0 := cn2 a0
    have a1 := cn a1
    have a2 := cn a2
    have a3 := cn a3
    have a4 := cn2 a4
    rw [inE k 0 6 0 6 rfl rfl] at a0
    rw [inE v 0 9 0 9 rfl rfl] at a1
    rw [inE l 0 6 0 6 rfl rfl] at a2
    rw [inE q 0 9 0 9 rfl rfl] at a3
    rw [inE s 0 9 0 9 rfl rfl] at a4
    have a5 : ¬ ¬ (h.2.1 93 0).toInt = 7 := of_decide_eq_false (cI a5)
    rw [a0, a1, a2, a3, a4, decide_eq_true (Decidable.not_not.mp a5), if_pos (Decidable.not_not.mp a5)] at no
    exact no rfl
  · have a0 := cn2 a0
    have a1 := cn a1
    have a2 := cn a2
    have a3 := cn a3
    have a4 := cz2 a4
    rw [inE k 0 6 0 6 rfl rfl] at a0
    rw [inE v 0 9 0 9 rfl rfl] at a1
    rw [inE l 0 6 0 6 rfl rfl] at a2
    rw [inE q 0 9 0 9 rfl rfl] at a3
    rw [inE s 0 9 0 9 rfl rfl] at a4
    rw [a0, a1, a2, a3, a4] at no
    exact no rfl
  · have a0 := cz2 a0
    rw [inE k 0 6 0 6 rfl rfl] at a0
    rw [a0] at no
    exact no rfl
end PER
