/-! The sum of the clauses of a word that hold, exactly. -/
def clOK (h : Hp) (c : Nat) : Prop := ∃ a m : Nat, (h.2.1 104 c).toInt = a ∧ (h.2.1 105 c).toInt = ((a + m : Nat) : Int) ∧ a + m ≤ 600 ∧ m ≤ 100 ∧ okS (h.2.1 106) m a 0 = true
/-- every yard that was read is of clauses that stand well -/
def TX (h : Hp) : Prop := (h.2.1 93 10).toInt < (h.2.1 93 9).toInt ∧ (h.2.1 93 45).toInt < (h.2.1 93 9).toInt ∧ ∀ f c : Nat, (f : Int) < (h.2.1 93 9).toInt → (c : Int) < (h.2.1 101 f).toInt → clOK h (10 * f + c) ∧ (h.2.1 105 (10 * f + c)).toInt ≤ ((100 * f + 100 : Nat) : Int)
/-- from where and how many clauses the yard that holds has -/
def cB0 (h : Hp) : Nat := if 0 ≤ (h.2.1 93 10).toInt then 10 * (h.2.1 93 10).toInt.toNat else 0
def cN0 (h : Hp) : Nat := if 0 ≤ (h.2.1 93 10).toInt then (h.2.1 101 (h.2.1 93 10).toInt.toNat).toInt.toNat else 0
def soB (h : Hp) (p l : Int32) (c : Nat) : Bool := (evS (h.2.1 106) (fun t => factM h p l (t / 1000)) ((h.2.1 105 c).toInt - (h.2.1 104 c).toInt).toNat (h.2.1 104 c).toInt.toNat []).headD false
def sumF (h : Hp) (w p l : Int32) : Nat → Nat → Int32 → Int32 → Int32 × Int32
  | 0, _, s, g => (s, g)
  | m + 1, c, s, g => if (h.2.1 102 c).toInt = w.toInt then sumF h w p l m (c + 1) (s + (if soB h p l c = true then h.2.1 103 c else 0)) 1 else sumF h w p l m (c + 1) s g
def sumM (h : Hp) (w p l z : Int32) : Int32 := if (sumF h w p l (cN0 h) (cB0 h) 0 0).2.toInt = 0 then z else (sumF h w p l (cN0 h) (cB0 h) 0 0).1
theorem i10 : (10 : Int32).toInt = 10 := rfl
/-- what HI says of a cell -/
theorem HI.iv {h : Hp} (hh : HI h) (a k : Nat) {r : Int × Int} (hr : ivl a k = r) : r.1 ≤ (h.2.1 a k).toInt ∧ (h.2.1 a k).toInt ≤ r.2 := by
  subst hr
  exact hh.2.1 a k
theorem begin_ok {X : Scr} {dp : Nat} {h : Hp} {Q : Option Value → Hp → Prop} (hh : HI h) (hQ : ∀ r : Int32, r.toInt = cB0 h → Q (some (.int r)) h) : Ends X dp 134 0 [.ref 93] [] h Q := by
  have ht := hh.iv 93 10 (r := (-1, 5)) rfl
  simp only at ht
  unfold cB0 at hQ
  refine w_begin hh.hs ⟨fun e => ?_, fun e => ?_⟩
  · have e : (0 : Int32).toInt ≤ (h.2.1 93 10).toInt := of_decide_eq_true (cI e)
    rw [z0] at e
    refine hQ _ ?_
    rw [if_pos e, i_mul (by rw [i10]; omega) (by rw [i10]; omega), i10]
    omega
  · have e : ¬ (0 : Int32).toInt ≤ (h.2.1 93 10).toInt := of_decide_eq_false (cI e)
    rw [z0] at e
    refine hQ _ ?_
    rw [if_neg e]
    rfl
theorem behind_ok {X : Scr} {dp : Nat} {h : Hp} {Q : Option Value → Hp → Prop} (hh : HI h) (hQ : ∀ r : Int32, r.toInt = ((cB0 h + cN0 h : Nat) : Int) → Q (some (.int r)) h) : Ends X dp 135 0 [.ref 93] [] h Q := by
  have ht := hh.iv 93 10 (r := (-1, 5)) rfl
  simp only at ht
  unfold cB0 cN0 at hQ
  refine w_behind hh.hs ⟨fun e => ?_, fun e => ?_⟩
  · have e : (0 : Int32).toInt ≤ (h.2.1 93 10).toInt := of_decide_eq_true (cI e)
    rw [z0] at e
    refine ⟨inB_iff e (by omega), hQ _ ?_⟩
    have hc := hh.iv 101 (h.2.1 93 10).toInt.toNat (r := (0, 10)) rfl
    simp only at hc
    rw [if_pos e, if_pos e]
    have e1 : (10 * h.2.1 93 10).toInt = 10 * (h.2.1 93 10).toInt := by rw [i_mul (by rw [i10]; omega) (by rw [i10]; omega), i10]
    generalize 10 * h.2.1 93 10 = t at e1 ⊢
    show (t + h.2.1 101 (h.2.1 93 10).toInt.toNat).toInt = _
    generalize h.2.1 101 (h.2.1 93 10).toInt.toNat = u at hc ⊢
    rw [i_add (by omega) (by omega), e1]
    omega
  · have e : ¬ (0 : Int32).toInt ≤ (h.2.1 93 10).toInt := of_decide_eq_false (cI e)
    rw [z0] at e
    refine hQ _ ?_
    rw [if_neg e, if_neg e]
    rfl
theorem soB_fr {h0 h : Hp} (hf : frm WPi h0 h) (p l : Int32) (c : Nat) : soB h p l c = soB h0 p l c := by
  have e : h.2.1 106 = h0.2.1 106 := by funext k; exact frI hf rfl
  have e2 : (fun t => factM h p l (t / 1000)) = (fun t => factM h0 p l (t / 1000)) := by
    funext t
    unfold factM
    rw [frI hf rfl, frI hf rfl, frI hf rfl, frI hf rfl]
  unfold soB
  rw [e, e2, frI hf rfl, frI hf rfl]
theorem okS_one {s : Nat → Int32} {fc : Int32 → Int32} : ∀ (m i : Nat) (st : List Bool), okS s m i st.length = true → (evS s fc m i st).length = 1
  | 0, i, st, h => of_decide_eq_true h
  | m + 1, i, st, h => by
    unfold okS at h
    rw [evS_s]
    by_cases h1 : (s i).toInt = -33
    · rw [if_pos h1] at h ⊢
      obtain ⟨o1, o2⟩ := (Bool.and_eq_true _ _).mp h
      match st, of_decide_eq_true o1, o2 with
      | b :: r, _, o2 => exact okS_one m (i + 1) ((!b) :: r) o2
    · rw [if_neg h1] at h ⊢
      by_cases h2 : (s i).toInt < 0
      · rw [if_pos h2] at h ⊢
        obtain ⟨o1, o2⟩ := (Bool.and_eq_true _ _).mp h
        match st, of_decide_eq_true o1, o2 with
        | b :: a :: r, _, o2 => exact okS_one m (i + 1) (_ :: r) o2
      · rw [if_neg h2] at h ⊢
        exact okS_one m (i + 1) (_ :: st) h
theorem so_ok {X : Scr} {dp : Nat} {h0 h : Hp} {Q : Option Value → Hp → Prop} (c p l : Int32) (cn : Nat) (hcn : c.toInt = cn) (hc2 : cn < 60) (hp : 0 ≤ p.toInt) (hp2 : p.toInt ≤ 6) (hh : HI h) (hf : frm WPi h0 h) (hcl : clOK h0 cn) (hQ : ∀ h', HI h' → frm WPi h0 h' → Q (some (.int (b2i (soB h0 p l cn)))) h') :
    Ends X (dp + 1) 137 0 [.ref 93, .int c, .int p, .int l, .retAddr 0, .retAddr 0, .retAddr 0, .retAddr 0, .retAddr 0] [] h Q := by
  obtain ⟨a, m, e1, e2, e3, e4, e5⟩ := hcl
  have hcc : c.toNatClampNeg = cn := by show c.toInt.toNat = _; omega
  refine w_so0 c p l hh.hs ⟨inB_iff (by omega) (by omega), ?_⟩
  refine so_loop (h0 := h0) c p l (by omega) (by omega) hp hp2 m a [] 0 _ _ _ _ h hh hf rfl (by rw [hcc, frI hf rfl]; exact e1) (by rw [hcc]; exact e2) e3 (by simpa using e4) e5 (fun j hj => absurd hj (by simp)) ?_
  intro h' a1 a2 b hb
  have : soB h0 p l cn = b := by
    unfold soB
    have q1 : ((h0.2.1 105 cn).toInt - (h0.2.1 104 cn).toInt).toNat = m := by omega
    have q2 : (h0.2.1 104 cn).toInt.toNat = a := by omega
    rw [q1, q2, hb]
    rfl
  rw [← this]
  exact hQ h' a1 a2
theorem sum_loop {X : Scr} {dp : Nat} {h0 : Hp} {Q : Option Value → Hp → Prop} (w p l z : Int32) (hp : 0 ≤ p.toInt) (hp2 : p.toInt ≤ 6) (hle : cB0 h0 + cN0 h0 ≤ 60) (hcl : ∀ c, cB0 h0 ≤ c → c < cB0 h0 + cN0 h0 → clOK h0 c) :
    ∀ (m cn : Nat) (s g c : Int32) (h : Hp), HI h → frm WPi h0 h → c.toInt = cn → cn + m = cB0 h0 + cN0 h0 → cB0 h0 ≤ cn →
    (∀ h', HI h' → frm WPi h0 h' → Q (some (.int (if (sumF h0 w p l m cn s g).2.toInt = 0 then z else (sumF h0 w p l m cn s g).1))) h') →
    Ends X (dp + 1 + 1) 138 12 [.ref 93, .int w, .int p, .int l, .int z, .int s, .int g, .int c] [] h Q
  | m, cn, s, g, c, h, hh, hf, hc, hm, hb, hQ => by
    have eB : cB0 h = cB0 h0 := by unfold cB0; rw [frI hf rfl]
    have eN : cN0 h = cN0 h0 := by unfold cN0; rw [frI hf rfl, frI hf rfl]
    have hcc : c.toNatClampNeg = cn := by show c.toInt.toNat = _; omega
    refine w_sum1 w p l z s g c hh.hs (behind_ok hh (fun r hr => ⟨r, rfl, hh.hs, fun e => ?_, fun e => ?_⟩))
    · have e : r.toInt ≤ c.toInt := of_decide_eq_true (cI e)
      rw [eB, eN] at hr
      have hm0 : m = 0 := by omega
      subst hm0
      have hQ := hQ h hh hf
      unfold sumF at hQ
      simp only at hQ
      refine ⟨fun e2 => ?_, fun e2 => ?_⟩
      · have e2 : g.toInt = 0 := of_decide_eq_true (cI e2)
        rwa [if_pos e2] at hQ
      · have e2 : ¬ g.toInt = 0 := of_decide_eq_false (cI e2)
        rwa [if_neg e2] at hQ
    · have e : ¬ r.toInt ≤ c.toInt := of_decide_eq_false (cI e)
      rw [eB, eN] at hr
      match m, hm, hQ with
      | 0, hm, _ => omega
      | m + 1, hm, hQ =>
        have ih := sum_loop (X := X) (dp := dp) (h0 := h0) (Q := Q) w p l z hp hp2 hle hcl m (cn + 1)
        have hk1 : (c + 1).toInt = ((cn + 1 : Nat) : Int) := by rw [i_add (by rw [i1]; omega) (by rw [i1]; omega), i1]; omega
        generalize c + 1 = c1 at hk1 ⊢
        have hw : h.2.1 102 c.toNatClampNeg = h0.2.1 102 cn := by rw [hcc, frI hf rfl]
        rw [hw]
        have hi : inB c 60 = true := inB_iff (by omega) (by omega)
        refine ⟨hi, fun e2 => ?_, fun e2 => ?_⟩
        · have e2 : (h0.2.1 102 cn).toInt = w.toInt := of_decide_eq_true (cI e2)
          refine so_ok c p l cn hc (by omega) hp hp2 hh hf (hcl cn hb (by omega)) (fun h' a1 a2 => ⟨_, rfl, a1.hs, fun e3 => ?_, fun e3 => ⟨hi, ?_⟩⟩)
          · have e3 : (b2i (soB h0 p l cn)).toInt = 0 := of_decide_eq_true (cI e3)
            rw [b2i_z] at e3
            refine ih _ 1 c1 h' a1 a2 hk1 (by omega) (by omega) (fun h'' b1 b2 => ?_)
            have := hQ h'' b1 b2
            rw [sumF, if_pos e2, e3, if_neg Bool.false_ne_true] at this
            exact this
          · have e3 : ¬ (b2i (soB h0 p l cn)).toInt = 0 := of_decide_eq_false (cI e3)
            rw [b2i_z, Bool.not_eq_false] at e3
            have hv : h'.2.1 103 c.toNatClampNeg = h0.2.1 103 cn := by rw [hcc, frI a2 rfl]
            rw [hv]
            refine ih _ 1 c1 h' a1 a2 hk1 (by omega) (by omega) (fun h'' b1 b2 => ?_)
            have := hQ h'' b1 b2
            rw [sumF, if_pos e2, e3, if_pos rfl] at this
            exact this
        · have e2 : ¬ (h0.2.1 102 cn).toInt = w.toInt := of_decide_eq_false (cI e2)
          refine ih s g c1 h hh hf hk1 (by omega) (by omega) (fun h'' b1 b2 => ?_)
          have := hQ h'' b1 b2
          rw [sumF, if_neg e2] at this
          exact this
theorem TX_cl {h : Hp} (hh : HI h) (ht : TX h) : cB0 h + cN0 h ≤ 60 ∧ ∀ c, cB0 h ≤ c → c < cB0 h + cN0 h → clOK h c := by
  have h1 := hh.iv 93 10 (r := (-1, 5)) rfl
  simp only at h1
  unfold cB0 cN0
  by_cases h0 : 0 ≤ (h.2.1 93 10).toInt
  · rw [if_pos h0, if_pos h0]
    have hc := hh.iv 101 (h.2.1 93 10).toInt.toNat (r := (0, 10)) rfl
    simp only at hc
    refine ⟨by omega, fun c c1 c2 => ?_⟩
    have := (ht.2.2 (h.2.1 93 10).toInt.toNat (c - 10 * (h.2.1 93 10).toInt.toNat) (by have := ht.1; omega) (by omega)).1
    rwa [show 10 * (h.2.1 93 10).toInt.toNat + (c - 10 * (h.2.1 93 10).toInt.toNat) = c by omega] at this
  · rw [if_neg h0, if_neg h0]
    exact ⟨by omega, fun c c1 c2 => by omega⟩
/-- the sum, exactly -/
theorem sum_ok {X : Scr} {dp : Nat} {h : Hp} {Q : Option Value → Hp → Prop} (w p l z : Int32) (hp : 0 ≤ p.toInt) (hp2 : p.toInt ≤ 6) (hh : HI h) (ht : TX h) (hQ : ∀ h', HI h' → frm WPi h h' → Q (some (.int (sumM h w p l z))) h') :
    Ends X (dp + 1 + 1) 138 0 [.ref 93, .int w, .int p, .int l, .int z, .retAddr 0, .retAddr 0, .retAddr 0] [] h Q := by
  obtain ⟨t1, t2⟩ := TX_cl hh ht
  refine w_sum0 w p l z hh.hs (begin_ok hh (fun r hr => ⟨r, rfl, hh.hs, ?_⟩))
  exact sum_loop w p l z hp hp2 t1 t2 (cN0 h) (cB0 h) 0 0 r h hh frm_refl hr rfl (Nat.le_refl _) hQ
