/-! Who goes when, exactly. -/
def bitB (s k : Int32) : Bool := decide (((s >>> (k &&& 31)) &&& 1).toInt = 1)
def runM (h : Hp) (p : Int32) : Bool := !bitB (h.2.1 93 2 ||| h.2.1 93 32) p
def waitM (h : Hp) (p : Int32) : Bool := decide ((h.2.1 94 p.toNatClampNeg).toInt = 3) || decide ((h.2.1 94 p.toNatClampNeg).toInt = 6)
def aheadM (h : Hp) (a b : Int32) : Bool := if waitM h a = waitM h b then decide ((h.2.1 97 b.toNatClampNeg).toInt < (h.2.1 97 a.toNatClampNeg).toInt) || (decide ((h.2.1 97 a.toNatClampNeg).toInt = (h.2.1 97 b.toNatClampNeg).toInt) && decide (a.toInt < b.toInt)) else waitM h b
theorem has_ok {X : Scr} {dp : Nat} {h : Hp} {Q : Option Value → Hp → Prop} (s k : Int32) (hs : HS h) (hQ : Q (some (.int (b2i (bitB s k)))) h) : Ends X dp 110 0 [.ref 93, .int s, .int k] [] h Q := by
  refine w_has s k hs ⟨fun e => ?_, fun e => ?_⟩
  · have e : ¬ ((s >>> (k &&& 31)) &&& 1).toInt = 1 := of_decide_eq_true (cI e)
    have : bitB s k = false := decide_eq_false e
    rwa [this] at hQ
  · have e : ¬ ¬ ((s >>> (k &&& 31)) &&& 1).toInt = 1 := of_decide_eq_false (cI e)
    have : bitB s k = true := decide_eq_true (Decidable.not_not.mp e)
    rwa [this] at hQ
theorem run_ok {X : Scr} {dp : Nat} {h : Hp} {Q : Option Value → Hp → Prop} (p : Int32) (hs : HS h) (hQ : Q (some (.int (b2i (runM h p)))) h) : Ends X (dp + 1) 139 0 [.ref 93, .int p] [] h Q := by
  refine w_isRunning p hs (has_ok _ _ hs ⟨_, rfl, hs, fun e => ?_, fun e => ?_⟩)
  · have e : ¬ (b2i (bitB (h.2.1 93 2 ||| h.2.1 93 32) p)).toInt = 0 := of_decide_eq_true (cI e)
    rw [b2i_z, Bool.not_eq_false] at e
    unfold runM at hQ
    rw [e] at hQ
    exact hQ
  · have e : ¬ ¬ (b2i (bitB (h.2.1 93 2 ||| h.2.1 93 32) p)).toInt = 0 := of_decide_eq_false (cI e)
    rw [Decidable.not_not, b2i_z] at e
    unfold runM at hQ
    rw [e] at hQ
    exact hQ
theorem waits_ok {X : Scr} {dp : Nat} {h : Hp} {Q : Option Value → Hp → Prop} (p : Int32) (hs : HS h) (hp : 0 ≤ p.toInt) (hp2 : p.toInt ≤ 6) (hQ : Q (some (.int (b2i (waitM h p)))) h) : Ends X dp 151 0 [.ref 93, .int p] [] h Q := by
  have hi : inB p 7 = true := inB_iff hp (by omega)
  unfold waitM at hQ
  refine w_waits p hs ⟨hi, fun e => ?_, fun e => ⟨hi, fun e2 => ?_, fun e2 => ?_⟩⟩
  · have e : (h.2.1 94 p.toNatClampNeg).toInt = 3 := of_decide_eq_true (cI e)
    rwa [decide_eq_true e] at hQ
  · have e : ¬ (h.2.1 94 p.toNatClampNeg).toInt = 3 := of_decide_eq_false (cI e)
    have e2 : ¬ (h.2.1 94 p.toNatClampNeg).toInt = 6 := of_decide_eq_true (cI e2)
    rwa [decide_eq_false e, decide_eq_false e2] at hQ
  · have e : ¬ (h.2.1 94 p.toNatClampNeg).toInt = 3 := of_decide_eq_false (cI e)
    have e2 : ¬ ¬ (h.2.1 94 p.toNatClampNeg).toInt = 6 := of_decide_eq_false (cI e2)
    rwa [decide_eq_false e, decide_eq_true (Decidable.not_not.mp e2)] at hQ
theorem b2i_inj {a b : Bool} : (b2i a).toInt = (b2i b).toInt ↔ a = b := by cases a <;> cases b <;> decide
theorem ahead_ok {X : Scr} {dp : Nat} {h : Hp} {Q : Option Value → Hp → Prop} (a b : Int32) (hs : HS h) (ha : 0 ≤ a.toInt) (ha2 : a.toInt ≤ 6) (hb : 0 ≤ b.toInt) (hb2 : b.toInt ≤ 6) (hQ : Q (some (.int (b2i (aheadM h a b)))) h) : Ends X (dp + 1) 152 0 [.ref 93, .int a, .int b] [] h Q := by
  have hia : inB a 7 = true := inB_iff ha (by omega)
  have hib : inB b 7 = true := inB_iff hb (by omega)
  refine w_ahead a b hs (waits_ok a hs ha ha2 ⟨_, rfl, hs, waits_ok b hs hb hb2 ⟨_, rfl, hs, fun e => ?_, fun e => ?_⟩⟩)
  · have e : (b2i (waitM h a)).toInt = (b2i (waitM h b)).toInt := of_decide_eq_true (cI e)
    rw [b2i_inj] at e
    unfold aheadM at hQ
    rw [if_pos e] at hQ
    refine ⟨hia, hib, fun c => ?_, fun c => ⟨hia, hib, fun d => ?_, fun d => ⟨fun f => ?_, fun f => ?_⟩⟩⟩
    · have c : (h.2.1 97 b.toNatClampNeg).toInt < (h.2.1 97 a.toNatClampNeg).toInt := of_decide_eq_true (cI c)
      rwa [decide_eq_true c] at hQ
    · have c : ¬ (h.2.1 97 b.toNatClampNeg).toInt < (h.2.1 97 a.toNatClampNeg).toInt := of_decide_eq_false (cI c)
      have d : ¬ (h.2.1 97 a.toNatClampNeg).toInt = (h.2.1 97 b.toNatClampNeg).toInt := of_decide_eq_true (cI d)
      rwa [decide_eq_false c, decide_eq_false d] at hQ
    · have c : ¬ (h.2.1 97 b.toNatClampNeg).toInt < (h.2.1 97 a.toNatClampNeg).toInt := of_decide_eq_false (cI c)
      have f : b.toInt ≤ a.toInt := of_decide_eq_true (cI f)
      rwa [decide_eq_false c, decide_eq_false (show ¬ a.toInt < b.toInt by omega), Bool.and_false] at hQ
    · have c : ¬ (h.2.1 97 b.toNatClampNeg).toInt < (h.2.1 97 a.toNatClampNeg).toInt := of_decide_eq_false (cI c)
      have d : ¬ ¬ (h.2.1 97 a.toNatClampNeg).toInt = (h.2.1 97 b.toNatClampNeg).toInt := of_decide_eq_false (cI d)
      have f : ¬ b.toInt ≤ a.toInt := of_decide_eq_false (cI f)
      rwa [decide_eq_false c, decide_eq_true (Decidable.not_not.mp d), decide_eq_true (show a.toInt < b.toInt by omega)] at hQ
  · have e : ¬ (b2i (waitM h a)).toInt = (b2i (waitM h b)).toInt := of_decide_eq_false (cI e)
    rw [b2i_inj] at e
    unfold aheadM at hQ
    rw [if_neg e] at hQ
    exact waits_ok b hs hb hb2 ⟨_, rfl, hs, b2i_01 _, hQ⟩
/-- the row of those who go -/
def OL (h : Hp) (l : List Int32) : Prop := (h.2.1 93 34).toInt = l.length ∧ ∀ j, j < l.length → h.2.1 110 j = l.getD j 0
def ins (l : List Int32) (k : Nat) (p : Int32) : List Int32 := l.take k ++ p :: l.drop k
theorem ins_len {l : List Int32} {k : Nat} {p : Int32} (hk : k ≤ l.length) : (ins l k p).length = l.length + 1 := by
  unfold ins
  simp
  omega
theorem ins_get {l : List Int32} {k : Nat} {p : Int32} (hk : k ≤ l.length) (j : Nat) : (ins l k p).getD j 0 = if j < k then l.getD j 0 else if j = k then p else l.getD (j - 1) 0 := by
  unfold ins
  have hl : (l.take k).length = k := by simp; omega
  by_cases h1 : j < k
  · rw [if_pos h1, List.getD_eq_getElem?_getD, List.getElem?_append_left (by omega), List.getElem?_take, if_pos h1, List.getD_eq_getElem?_getD]
  · rw [if_neg h1, List.getD_eq_getElem?_getD, List.getElem?_append_right (by omega), hl]
    by_cases h2 : j = k
    · rw [if_pos h2, h2, Nat.sub_self]
      rfl
    · rw [if_neg h2, show j - k = (j - k - 1) + 1 by omega, List.getElem?_cons_succ, List.getElem?_drop, List.getD_eq_getElem?_getD, show k + (j - k - 1) = j - 1 by omega]
def WO : List (Nat × Nat) := [(110, 999), (93, 34)]
theorem WO_a {k : Nat} : inW WO 110 k = true := by simp [inW, WO]
theorem put_loop {X : Scr} {dp : Nat} {h0 : Hp} {Q : Option Value → Hp → Prop} (p k : Int32) (kn : Nat) (l : List Int32) (hk : k.toInt = kn) (hkl : kn ≤ l.length) (hl : l.length ≤ 6) (hp : 0 ≤ p.toInt) (hp2 : p.toInt ≤ 6)
    (hQ : ∀ h', HI h' → frm WO h0 h' → OL h' (ins l kn p) → Q none h') :
    ∀ (m : Nat) (j : Int32) (h : Hp), HI h → frm WO h0 h → j.toInt = ((kn + m : Nat) : Int) → kn + m ≤ l.length → (h.2.1 93 34).toInt = l.length → (∀ i, i < kn + m → h.2.1 110 i = l.getD i 0) → (∀ i, kn + m < i → i ≤ l.length → h.2.1 110 i = l.getD (i - 1) 0) →
    Ends X dp 153 5 [.ref 93, .int p, .int k, .int j] [] h Q
  | 0, j, h, hh, hf, hj, hm, hg, h1, h2 => by
    have hkk : k.toNatClampNeg = kn := by show k.toInt.toNat = _; omega
    refine w_put1 p k j hh.hs ⟨fun e => ⟨inB_iff (by omega) (by omega), ?_⟩, fun e => ?_⟩
    · rw [hkk]
      have a1 : HI (hpI h 110 kn p) := HI_put hh (by show (0 : Int) ≤ _; exact hp) (by show _ ≤ (6 : Int); exact hp2)
      have a2 : frm WO h0 (hpI h 110 kn p) := frm_put hf WO_a
      have g1 : (hpI h 110 kn p).2.1 93 34 = h.2.1 93 34 := put_ne (by omega)
      rw [g1]
      have g2 : (h.2.1 93 34 + 1).toInt = l.length + 1 := by rw [i_add (by rw [i1]; omega) (by rw [i1]; omega), i1, hg]
      generalize h.2.1 93 34 + 1 = u at g2 ⊢
      refine hQ _ (HI_put a1 (by show (0 : Int) ≤ _; omega) (by show _ ≤ (7 : Int); omega)) (frm_put a2 rfl) ⟨?_, ?_⟩
      · rw [put_at, ins_len hkl]
        omega
      · intro i hi
        rw [ins_len hkl] at hi
        rw [put_ne (by omega), ins_get hkl]
        by_cases c1 : i < kn
        · rw [if_pos c1, put_ne (by omega)]
          exact h1 i (by omega)
        · rw [if_neg c1]
          by_cases c2 : i = kn
          · rw [if_pos c2, c2, put_at]
          · rw [if_neg c2, put_ne (by omega)]
            exact h2 i (by omega) (by omega)
    · exfalso
      have e : ¬ j.toInt ≤ k.toInt := of_decide_eq_false (cI e)
      omega
  | m + 1, j, h, hh, hf, hj, hm, hg, h1, h2 => by
    refine w_put1 p k j hh.hs ⟨fun e => ?_, fun e => ?_⟩
    · exfalso
      have e : j.toInt ≤ k.toInt := of_decide_eq_true (cI e)
      omega
    · have hj1 : (j - 1).toInt = ((kn + m : Nat) : Int) := by rw [i_sub (by rw [i1]; omega) (by rw [i1]; omega), i1]; omega
      have hj2 : (j + -1).toInt = ((kn + m : Nat) : Int) := by rw [i_add (by rw [im1]; omega) (by rw [im1]; omega), im1]; omega
      generalize j - 1 = j1 at hj1 ⊢
      generalize j + -1 = j2 at hj2 ⊢
      have q1 : j1.toNatClampNeg = kn + m := by show j1.toInt.toNat = _; omega
      have q2 : j.toNatClampNeg = kn + m + 1 := by show j.toInt.toNat = _; omega
      refine ⟨inB_iff (by omega) (by omega), inB_iff (by omega) (by omega), ?_⟩
      rw [q1, q2]
      have hv := HI.iv hh 110 (kn + m) (r := (0, 6)) rfl
      refine put_loop p k kn l hk hkl hl hp hp2 hQ m j2 _ (HI_put hh hv.1 hv.2) (frm_put hf WO_a) hj2 (by omega) (by rw [put_ne (by omega)]; exact hg) (fun i hi => ?_) (fun i hi hi2 => ?_)
      · rw [put_ne (by omega)]
        exact h1 i (by omega)
      · by_cases c : i = kn + m + 1
        · rw [c, put_at]
          exact h1 (kn + m) (by omega)
        · rw [put_ne (by omega)]
          exact h2 i (by omega) hi2
theorem put_ok {X : Scr} {dp : Nat} {h : Hp} {Q : Option Value → Hp → Prop} (p k : Int32) (kn : Nat) (l : List Int32) (hk : k.toInt = kn) (hkl : kn ≤ l.length) (hl : l.length ≤ 6) (hp : 0 ≤ p.toInt) (hp2 : p.toInt ≤ 6) (hh : HI h) (ho : OL h l)
    (hQ : ∀ h', HI h' → frm WO h h' → OL h' (ins l kn p) → Q none h') : Ends X dp 153 0 [.ref 93, .int p, .int k, .retAddr 0] [] h Q := by
  refine w_put0 p k hh.hs ?_
  have hm : kn + (l.length - kn) = l.length := by omega
  refine put_loop (h0 := h) p k kn l hk hkl hl hp hp2 hQ (l.length - kn) (h.2.1 93 34) h hh frm_refl (by rw [hm]; exact ho.1) (by omega) ho.1 (fun i hi => ho.2 i (by omega)) (fun i hi hi2 => by omega)
