/-! Whether a clause holds, exactly. -/
theorem inB_iff {j : Int32} {n : Nat} (h1 : 0 ≤ j.toInt) (h2 : j.toInt < n) : inB j n = true := inB_of (r := (j.toInt, j.toInt)) (Int.le_refl _) (Int.le_refl _) h1 h2
theorem i1 : (1 : Int32).toInt = 1 := rfl
theorem im1 : (-1 : Int32).toInt = -1 := rfl
def b2i (b : Bool) : Int32 := if b = true then 1 else 0
theorem b2i_01 (b : Bool) : b2i b = 0 ∨ b2i b = 1 := by cases b <;> decide
theorem b2i_z {b : Bool} : (b2i b).toInt = 0 ↔ b = false := by cases b <;> decide
theorem HI_put {h : Hp} {a k : Nat} {x : Int32} (hh : HI h) (h1 : (ivl a k).1 ≤ x.toInt) (h2 : x.toInt ≤ (ivl a k).2) : HI (hpI h a k x) := by
  refine ⟨hh.1, fun a' k' => ?_, hh.2.2⟩
  show (ivl a' k').1 ≤ (ud h.2.1 a k x a' k').toInt ∧ (ud h.2.1 a k x a' k').toInt ≤ (ivl a' k').2
  unfold ud
  by_cases ha : a' = a
  · rw [if_pos ha]
    by_cases hk : k' = k
    · simp only [if_pos hk]
      rw [ha, hk]
      exact ⟨h1, h2⟩
    · simp only [if_neg hk]
      rw [ha]
      exact hh.2.1 a k'
  · rw [if_neg ha]
    exact hh.2.1 a' k'
theorem frm_put {W : List (Nat × Nat)} {h0 h : Hp} {a k : Nat} {x : Int32} (hf : frm W h0 h) (hw : inW W a k = true) : frm W h0 (hpI h a k x) := frm_trans hf (frm_ud hw)
theorem frI {W : List (Nat × Nat)} {h0 h : Hp} (hf : frm W h0 h) {a k : Nat} (ha : inW W a k = false) : h.2.1 a k = h0.2.1 a k := (hf a k ha).1
theorem put_at {h : Hp} {a k : Nat} {x : Int32} : (hpI h a k x).2.1 a k = x := by
  show ud h.2.1 a k x a k = x
  simp [ud]
theorem put_ne {h : Hp} {a k b j : Nat} {x : Int32} (hn : ¬ (b = a ∧ j = k)) : (hpI h a k x).2.1 b j = h.2.1 b j := by
  show ud h.2.1 a k x b j = _
  unfold ud
  by_cases hb : b = a
  · rw [if_pos hb]
    by_cases hj : j = k
    · exact absurd ⟨hb, hj⟩ hn
    · simp only [if_neg hj]
      rw [hb]
  · rw [if_neg hb]
def factM (h : Hp) (p l f : Int32) : Int32 := if f.toInt = 0 then p else if f.toInt = 1 then h.2.1 94 p.toNatClampNeg else if f.toInt = 2 then l else if f.toInt = 3 then h.2.1 98 p.toNatClampNeg else if f.toInt = 4 then h.2.1 97 p.toNatClampNeg else h.2.1 93 1 - h.2.1 93 1 / 10 * 10
theorem fact_ok {X : Scr} {dp : Nat} {h : Hp} {Q : Option Value → Hp → Prop} (f p l : Int32) (hs : HS h) (hp : 0 ≤ p.toInt) (hp2 : p.toInt ≤ 6) (hQ : Q (some (.int (factM h p l f))) h) : Ends X dp 136 0 [.ref 93, .int f, .int p, .int l] [] h Q := by
  have hi : inB p 7 = true := inB_iff hp (by omega)
  unfold factM at hQ
  refine w_fact f p l hs ⟨fun e => ?_, fun e => ?_, fun e => ⟨hi, ?_⟩, fun e => ?_, fun e => ⟨hi, ?_⟩, fun e => ⟨hi, ?_⟩⟩
  · rwa [if_neg (by omega), if_neg (by omega), if_neg (by omega), if_neg (by omega), if_neg (by omega)] at hQ
  · rwa [if_pos e] at hQ
  · rwa [if_neg (by omega), if_pos e] at hQ
  · rwa [if_neg (by omega), if_neg (by omega), if_pos e] at hQ
  · rwa [if_neg (by omega), if_neg (by omega), if_neg (by omega), if_pos e] at hQ
  · rwa [if_neg (by omega), if_neg (by omega), if_neg (by omega), if_neg (by omega), if_pos e] at hQ
/-- a test's truth -/
def tst (t is : Int32) : Bool := if (t / 100 - t / 100 / 10 * 10).toInt = 0 then decide (is.toInt < (t - t / 100 * 100).toInt) else if (t / 100 - t / 100 / 10 * 10).toInt = 1 then decide (is.toInt = (t - t / 100 * 100).toInt) else decide ((t - t / 100 * 100).toInt < is.toInt)
/-- signs in order, one behind what they join -/
def okS (s : Nat → Int32) : Nat → Nat → Nat → Bool
  | 0, _, n => decide (n = 1)
  | m + 1, i, n => if (s i).toInt = -33 then decide (1 ≤ n) && okS s m (i + 1) n else if (s i).toInt < 0 then decide (2 ≤ n) && okS s m (i + 1) (n - 1) else okS s m (i + 1) (n + 1)
def evS (s : Nat → Int32) (fc : Int32 → Int32) : Nat → Nat → List Bool → List Bool
  | 0, _, st => st
  | m + 1, i, st => if (s i).toInt = -33 then (match st with | b :: r => evS s fc m (i + 1) ((!b) :: r) | [] => []) else if (s i).toInt < 0 then (match st with | b :: a :: r => evS s fc m (i + 1) ((if (s i).toInt = -38 then a && b else a || b) :: r) | _ => []) else evS s fc m (i + 1) (tst (s i) (fc (s i)) :: st)
theorem evS_s (s : Nat → Int32) (fc : Int32 → Int32) (m i : Nat) (st : List Bool) : evS s fc (m + 1) i st = if (s i).toInt = -33 then (match st with | b :: r => evS s fc m (i + 1) ((!b) :: r) | [] => []) else if (s i).toInt < 0 then (match st with | b :: a :: r => evS s fc m (i + 1) ((if (s i).toInt = -38 then a && b else a || b) :: r) | _ => []) else evS s fc m (i + 1) (tst (s i) (fc (s i)) :: st) := rfl
theorem m33 : (-33 : Int32).toInt = -33 := rfl
theorem m38 : (-38 : Int32).toInt = -38 := rfl
def WPi : List (Nat × Nat) := [(109, 999)]
theorem WPi_in {k : Nat} : inW WPi 109 k = true := by simp [inW, WPi]
/-- the pile holds what stands so far -/
def PIL (h : Hp) (st : List Bool) : Prop := ∀ j, j < st.length → h.2.1 109 j = b2i (st.getD (st.length - 1 - j) false)
theorem PIL.push {h : Hp} {st : List Bool} {x : Bool} (hp : PIL h st) : PIL (hpI h 109 st.length (b2i x)) (x :: st) := by
  intro j hj
  simp only [List.length_cons] at hj ⊢
  by_cases e : j = st.length
  · subst e
    rw [put_at]
    simp
  · rw [put_ne (by omega), hp j (by omega), show st.length + 1 - 1 - j = (st.length - 1 - j) + 1 by omega]
    simp
theorem PIL.set {h : Hp} {st : List Bool} {x b : Bool} (hp : PIL h (b :: st)) : PIL (hpI h 109 st.length (b2i x)) (x :: st) := by
  refine PIL.push ?_
  intro j hj
  rw [hp j (by simp; omega), show (b :: st).length - 1 - j = (st.length - 1 - j) + 1 by simp; omega]
  simp
theorem PIL.tl {h : Hp} {st : List Bool} {b : Bool} (hp : PIL h (b :: st)) : PIL h st := by
  intro j hj
  rw [hp j (by simp; omega), show (b :: st).length - 1 - j = (st.length - 1 - j) + 1 by simp; omega]
  simp
theorem PIL.hd {h : Hp} {st : List Bool} {b : Bool} (hp : PIL h (b :: st)) : h.2.1 109 st.length = b2i b := by
  have := hp st.length (by simp)
  rwa [show (b :: st).length - 1 - st.length = 0 by simp] at this
theorem b2i_iv (b : Bool) (k : Nat) : (ivl 109 k).1 ≤ (b2i b).toInt ∧ (b2i b).toInt ≤ (ivl 109 k).2 := by
  show (0 : Int) ≤ _ ∧ _ ≤ (1 : Int)
  cases b <;> decide
set_option maxHeartbeats 1000000 in
theorem so_loop {X : Scr} {dp : Nat} {h0 : Hp} {Q : Option Value → Hp → Prop} (c p l : Int32) (hc : 0 ≤ c.toInt) (hc2 : c.toInt < 60) (hp : 0 ≤ p.toInt) (hp2 : p.toInt ≤ 6) :
    ∀ (m i : Nat) (st : List Bool) (n k : Int32) (va vb vd : Value) (h : Hp), HI h → frm WPi h0 h → n.toInt = st.length → k.toInt = i → (h0.2.1 105 c.toNatClampNeg).toInt = ((i + m : Nat) : Int) → i + m ≤ 600 → st.length + m ≤ 100 → okS (h0.2.1 106) m i st.length = true → PIL h st →
    (∀ h', HI h' → frm WPi h0 h' → ∀ b, evS (h0.2.1 106) (fun t => factM h0 p l (t / 1000)) m i st = [b] → Q (some (.int (b2i b))) h') →
    Ends X (dp + 1) 137 11 [.ref 93, .int c, .int p, .int l, .int n, .int k, va, vb, vd] [] h Q
  | 0, i, st, n, k, va, vb, vd, h, hh, hf, hn, hk, ht, h6, h1, hok, hpi, hQ => by
    have ht2 : (h.2.1 105 c.toNatClampNeg).toInt = i := by rw [frI hf rfl]; omega
    refine w_so1 c p l n k va vb vd hh.hs ⟨inB_iff hc hc2, fun _ => ⟨by decide, ?_⟩, fun e => ?_⟩
    · have hl : st.length = 1 := of_decide_eq_true hok
      match st, hl with
      | [b], _ =>
        have : h.2.1 109 (0 : Int32).toNatClampNeg = b2i b := hpi.hd
        rw [this]
        exact ⟨b2i_01 b, hQ h hh hf b rfl⟩
    · exfalso
      have e : ¬ (h.2.1 105 c.toNatClampNeg).toInt ≤ k.toInt := of_decide_eq_false (cI e)
      omega
  | m + 1, i, st, n, k, va, vb, vd, h, hh, hf, hn, hk, ht, h6, h1, hok, hpi, hQ => by
    have ih := so_loop (X := X) (dp := dp) (h0 := h0) (Q := Q) c p l hc hc2 hp hp2 m
    have ht2 : (h.2.1 105 c.toNatClampNeg).toInt = ((i + (m + 1) : Nat) : Int) := by rw [frI hf rfl]; exact ht
    have hki : k.toNatClampNeg = i := by show k.toInt.toNat = i; omega
    have hT : h.2.1 106 k.toNatClampNeg = h0.2.1 106 i := by rw [hki, frI hf rfl]
    have hk1 : (k + 1).toInt = ((i + 1 : Nat) : Int) := by rw [i_add (by rw [i1]; omega) (by rw [i1]; omega), i1]; omega
    have hto : (h0.2.1 105 c.toNatClampNeg).toInt = (((i + 1) + m : Nat) : Int) := by rw [ht]; omega
    have hni : n.toNatClampNeg = st.length := by show n.toInt.toNat = _; omega
    unfold okS at hok
    refine w_so1 c p l n k va vb vd hh.hs ⟨inB_iff hc hc2, fun e => ?_, fun e => ⟨inB_iff (by omega) (by omega), fun e2 => ⟨fun e3 => ?_, fun e3 => ?_⟩, fun e2 => ?_⟩⟩
    · exfalso
      have e : (h.2.1 105 c.toNatClampNeg).toInt ≤ k.toInt := of_decide_eq_true (cI e)
      omega
    · have e2 : ¬ (h.2.1 106 k.toNatClampNeg).toInt = (-33 : Int32).toInt := of_decide_eq_true (cI e2)
      have e3 : (0 : Int32).toInt ≤ (h.2.1 106 k.toNatClampNeg).toInt := of_decide_eq_true (cI e3)
      rw [hT] at e2 e3
      rw [m33] at e2
      rw [z0] at e3
      rw [if_neg e2, if_neg (by omega)] at hok
      have hQ' : ∀ h', HI h' → frm WPi h0 h' → ∀ b, evS (h0.2.1 106) (fun t => factM h0 p l (t / 1000)) m (i + 1) (tst (h0.2.1 106 i) (factM h0 p l (h0.2.1 106 i / 1000)) :: st) = [b] → Q (some (.int (b2i b))) h' := by
        intro h' a1 a2 b a3
        refine hQ h' a1 a2 b ?_
        rw [evS_s, if_neg e2, if_neg (by omega)]
        exact a3
      have hfm : factM h p l (h0.2.1 106 i / 1000) = factM h0 p l (h0.2.1 106 i / 1000) := by
        unfold factM
        rw [frI hf rfl, frI hf rfl, frI hf rfl, frI hf rfl]
      rw [hT]
      refine fact_ok _ p l hh.hs hp hp2 ?_
      refine ⟨_, rfl, hh.hs, ?_⟩
      rw [hfm]
      have hn1 : (n + 1).toInt = ((st.length + 1 : Nat) : Int) := by
        clear hk1
        rw [i_add (by rw [i1]; omega) (by rw [i1]; omega), i1]
        omega
      generalize n + 1 = n1 at hn1 ⊢
      generalize k + 1 = k1 at hk1 ⊢
      have push : ∀ (x : Bool) (va vb vd : Value), tst (h0.2.1 106 i) (factM h0 p l (h0.2.1 106 i / 1000)) = x → inB n 100 = true ∧ Ends X (dp + 1) 137 11 [.ref 93, .int c, .int p, .int l, .int n1, .int k1, va, vb, vd] [] (hpI h 109 n.toNatClampNeg (b2i x)) Q := by
        intro x va vb vd hx
        refine ⟨inB_iff (by omega) (by omega), ?_⟩
        rw [hx] at hQ'
        rw [hni]
        refine ih (i + 1) (x :: st) n1 k1 va vb vd _ (HI_put hh (b2i_iv x _).1 (b2i_iv x _).2) (frm_put hf WPi_in) ?_ hk1 hto (by omega) (by simp; omega) hok (PIL.push hpi) hQ'
        rw [hn1]
        simp
      refine ⟨fun a1 => ⟨fun a2 => ⟨fun a3 => ?_, fun a3 => ?_⟩, fun a2 => ⟨fun a3 => ?_, fun a3 => ?_⟩⟩, fun a1 => ⟨fun a3 => ?_, fun a3 => ?_⟩⟩
      all_goals (have a1 := cI a1; have a3 := cI a3; simp only [cndI, z0, decide_eq_true_eq, decide_eq_false_iff_not, Decidable.not_not] at a1 a3)
      · have a2 := cI a2; simp only [cndI, i1, decide_eq_true_eq, decide_eq_false_iff_not, Decidable.not_not] at a2
        exact push false _ _ _ (by unfold tst; rw [if_neg a1, if_neg a2]; exact decide_eq_false (by omega))
      · have a2 := cI a2; simp only [cndI, i1, decide_eq_true_eq, decide_eq_false_iff_not, Decidable.not_not] at a2
        exact push true _ _ _ (by unfold tst; rw [if_neg a1, if_neg a2]; exact decide_eq_true (by omega))
      · have a2 := cI a2; simp only [cndI, i1, decide_eq_true_eq, decide_eq_false_iff_not, Decidable.not_not] at a2
        exact push false _ _ _ (by unfold tst; rw [if_neg a1, if_pos a2]; exact decide_eq_false (by omega))
      · have a2 := cI a2; simp only [cndI, i1, decide_eq_true_eq, decide_eq_false_iff_not, Decidable.not_not] at a2
        exact push true _ _ _ (by unfold tst; rw [if_neg a1, if_pos a2]; exact decide_eq_true (by omega))
      · exact push false _ _ _ (by unfold tst; rw [if_pos a1]; exact decide_eq_false (by omega))
      · exact push true _ _ _ (by unfold tst; rw [if_pos a1]; exact decide_eq_true (by omega))
    · have e2 : ¬ (h.2.1 106 k.toNatClampNeg).toInt = (-33 : Int32).toInt := of_decide_eq_true (cI e2)
      have e3 : ¬ (0 : Int32).toInt ≤ (h.2.1 106 k.toNatClampNeg).toInt := of_decide_eq_false (cI e3)
      rw [hT] at e2 e3
      rw [m33] at e2
      rw [z0] at e3
      rw [if_neg e2, if_pos (by omega)] at hok
      obtain ⟨o1, o2⟩ := (Bool.and_eq_true _ _).mp hok
      have o1 := of_decide_eq_true o1
      match st, o1 with
      | b :: a :: r, _ =>
        simp only [List.length_cons] at hn h1 o2 hni
        have hQ' : ∀ h', HI h' → frm WPi h0 h' → ∀ z, evS (h0.2.1 106) (fun t => factM h0 p l (t / 1000)) m (i + 1) ((if (h0.2.1 106 i).toInt = -38 then a && b else a || b) :: r) = [z] → Q (some (.int (b2i z))) h' := by
          intro h' a1 a2 b a3
          refine hQ h' a1 a2 b ?_
          rw [evS_s, if_neg e2, if_pos (by omega)]
          exact a3
        generalize k + 1 = k1 at hk1 ⊢
        have hn1 : (n + -1).toInt = ((r.length + 1 : Nat) : Int) := by rw [i_add (by rw [im1]; omega) (by rw [im1]; omega), im1]; omega
        generalize n + -1 = n1 at hn1 ⊢
        have hn2 : (n1 - 1).toInt = ((r.length : Nat) : Int) := by rw [i_sub (by rw [i1]; omega) (by rw [i1]; omega), i1]; omega
        generalize n1 - 1 = n2 at hn2 ⊢
        have c1 : n1.toNatClampNeg = r.length + 1 := by show n1.toInt.toNat = _; omega
        have c2 : n2.toNatClampNeg = r.length := by show n2.toInt.toNat = _; omega
        have j1 : inB n1 100 = true := inB_iff (by omega) (by omega)
        have j2 : inB n2 100 = true := inB_iff (by omega) (by omega)
        have vb1 : h.2.1 109 n1.toNatClampNeg = b2i b := by rw [c1]; exact hpi.hd
        have va1 : h.2.1 109 n2.toNatClampNeg = b2i a := by rw [c2]; exact hpi.tl.hd
        have pop : ∀ (x : Bool) (va vb vd : Value), (if (h0.2.1 106 i).toInt = -38 then a && b else a || b) = x → inB n2 100 = true ∧ Ends X (dp + 1) 137 11 [.ref 93, .int c, .int p, .int l, .int n1, .int k1, va, vb, vd] [] (hpI h 109 n2.toNatClampNeg (b2i x)) Q := by
          intro x va vb vd hx
          refine ⟨j2, ?_⟩
          rw [hx] at hQ'
          rw [c2]
          refine ih (i + 1) (x :: r) n1 k1 va vb vd _ (HI_put hh (b2i_iv x _).1 (b2i_iv x _).2) (frm_put hf WPi_in) (by rw [hn1]; simp) hk1 hto (by omega) (by simp; omega) ?_ (PIL.set hpi.tl) hQ'
          simpa using o2
        rw [hT, va1, vb1]
        refine ⟨fun a1 => ⟨j2, fun a2 => ?_, fun a2 => ⟨j1, fun a3 => ?_, fun a3 => ?_⟩⟩, fun a1 => ⟨j2, fun a2 => ?_, fun a2 => ⟨j1, fun a3 => ?_, fun a3 => ?_⟩⟩⟩
        all_goals (have a1 := cI a1; have a2 := cI a2; simp only [cndI, z0, m38, decide_eq_true_eq, decide_eq_false_iff_not, Decidable.not_not, b2i_z, Bool.not_eq_false] at a1 a2)
        · exact pop true _ _ _ (by rw [if_neg a1, a2]; rfl)
        · have a3 := cI a3; simp only [cndI, z0, decide_eq_true_eq, decide_eq_false_iff_not, Decidable.not_not, b2i_z, Bool.not_eq_false] at a3
          exact pop false _ _ _ (by rw [if_neg a1, (by simpa using a2 : a = false), a3]; rfl)
        · have a3 := cI a3; simp only [cndI, z0, decide_eq_true_eq, decide_eq_false_iff_not, Decidable.not_not, b2i_z, Bool.not_eq_false] at a3
          exact pop true _ _ _ (by rw [if_neg a1, (by simpa using a2 : a = false), a3]; rfl)
        · exact pop false _ _ _ (by rw [if_pos a1, a2]; rfl)
        · have a3 := cI a3; simp only [cndI, z0, decide_eq_true_eq, decide_eq_false_iff_not, Decidable.not_not, b2i_z, Bool.not_eq_false] at a3
          exact pop false _ _ _ (by rw [if_pos a1, (by simpa using a2 : a = true), a3]; rfl)
        · have a3 := cI a3; simp only [cndI, z0, decide_eq_true_eq, decide_eq_false_iff_not, Decidable.not_not, b2i_z, Bool.not_eq_false] at a3
          exact pop true _ _ _ (by rw [if_pos a1, (by simpa using a2 : a = true), a3]; rfl)
    · have e2 : ¬ ¬ (h.2.1 106 k.toNatClampNeg).toInt = (-33 : Int32).toInt := of_decide_eq_false (cI e2)
      rw [hT] at e2
      rw [m33, Decidable.not_not] at e2
      rw [if_pos e2] at hok
      obtain ⟨o1, o2⟩ := (Bool.and_eq_true _ _).mp hok
      have o1 := of_decide_eq_true o1
      match st, o1 with
      | b :: r, _ =>
        simp only [List.length_cons] at hn h1 o2 hni
        have hQ' : ∀ h', HI h' → frm WPi h0 h' → ∀ z, evS (h0.2.1 106) (fun t => factM h0 p l (t / 1000)) m (i + 1) ((!b) :: r) = [z] → Q (some (.int (b2i z))) h' := by
          intro h' a1 a2 b a3
          refine hQ h' a1 a2 b ?_
          rw [evS_s, if_pos e2]
          exact a3
        generalize k + 1 = k1 at hk1 ⊢
        have hn1 : (n - 1).toInt = ((r.length : Nat) : Int) := by rw [i_sub (by rw [i1]; omega) (by rw [i1]; omega), i1]; omega
        generalize n - 1 = n1 at hn1 ⊢
        have c1 : n1.toNatClampNeg = r.length := by show n1.toInt.toNat = _; omega
        have j1 : inB n1 100 = true := inB_iff (by omega) (by omega)
        have vb1 : h.2.1 109 n1.toNatClampNeg = b2i b := by rw [c1]; exact hpi.hd
        have neg : ∀ (x : Bool) (va vb vd : Value), (!b) = x → inB n1 100 = true ∧ Ends X (dp + 1) 137 11 [.ref 93, .int c, .int p, .int l, .int n, .int k1, va, vb, vd] [] (hpI h 109 n1.toNatClampNeg (b2i x)) Q := by
          intro x va vb vd hx
          refine ⟨j1, ?_⟩
          rw [hx] at hQ'
          rw [c1]
          exact ih (i + 1) (x :: r) n k1 va vb vd _ (HI_put hh (b2i_iv x _).1 (b2i_iv x _).2) (frm_put hf WPi_in) (by simpa using hn) hk1 hto (by omega) (by simp; omega) (by simpa using o2) (PIL.set hpi) hQ'
        rw [hT, vb1]
        refine ⟨j1, fun a2 => ?_, fun a2 => ?_⟩
        all_goals (have a2 := cI a2; simp only [cndI, z0, decide_eq_true_eq, decide_eq_false_iff_not, Decidable.not_not, b2i_z, Bool.not_eq_false] at a2)
        · exact neg false _ _ _ (by rw [(by simpa using a2 : b = true)]; rfl)
        · exact neg true _ _ _ (by rw [(by simpa using a2 : b = false)]; rfl)
