/-! The reading of the texts of the reference, exactly: what waits, what is emitted. -/
def opn (ws : List Int) : Nat := (ws.filter (fun w => decide (w = 33) || decide (w = 40))).length
def whlP : List Int → List Int → List Int × List Int
  | w :: ws, sg => if w = 33 then whlP ws (sg ++ [-33]) else (w :: ws, sg)
  | [], sg => ([], sg)
def setP (s : Int) : List Int → List Int → List Int × List Int
  | w :: ws, sg => if w = 38 ∨ (w = 124 ∧ ¬ s = 38) then setP s ws (sg ++ [-w]) else (w :: ws, sg)
  | [], sg => ([], sg)
def PSt (f : Nat) (h : Hp) (ws sg : List Int) : Prop := (h.2.1 93 23).toInt = ws.length ∧ (h.2.1 93 24).toInt = opn ws ∧ (h.2.1 93 22).toInt = ((100 * f + sg.length : Nat) : Int) ∧ (∀ j, j < ws.length → (h.2.1 107 j).toInt = ws.getD (ws.length - 1 - j) 0) ∧ (∀ j, j < sg.length → (h.2.1 106 (100 * f + j)).toInt = sg.getD j 0)
def LW (f : Nat) (h h' : Hp) : Prop := ∀ x, x < 100 * f → h'.2.1 106 x = h.2.1 106 x
theorem LW.rf {f : Nat} {h : Hp} : LW f h h := fun _ _ => rfl
theorem LW.tr {f : Nat} {h h' h'' : Hp} (a : LW f h h') (b : LW f h' h'') : LW f h h'' := fun x hx => (b x hx).trans (a x hx)
theorem LW.put {f : Nat} {h : Hp} {a k : Nat} {x : Int32} (ha : ¬ a = 106) : LW f h (hpI h a k x) := fun y _ => put_ne (by omega)
def WE : List (Nat × Nat) := [(93, 22), (106, 999)]
def WW : List (Nat × Nat) := [(93, 22), (93, 23), (93, 24), (106, 999)]
theorem WE_in {k : Nat} : inW WE 106 k = true := by simp [inW, WE]
theorem WW_in {k : Nat} : inW WW 106 k = true := by simp [inW, WW]
theorem i_neg {x : Int32} (h1 : -2147483648 < x.toInt) : (-x).toInt = -x.toInt := by
  have hb := i32r x
  simp only [fI] at hb
  rw [Int32.toInt_neg]
  exact bm32 (by omega) (by omega)
theorem getD_app1 {l : List Int} {x : Int} {j : Nat} (h : j < l.length) : (l ++ [x]).getD j 0 = l.getD j 0 := by
  rw [List.getD_eq_getElem?_getD, List.getElem?_append_left h, List.getD_eq_getElem?_getD]
theorem getD_app2 {l : List Int} {x : Int} : (l ++ [x]).getD l.length 0 = x := by
  rw [List.getD_eq_getElem?_getD, List.getElem?_append_right (Nat.le_refl _), Nat.sub_self]
  rfl
section ST
variable {X : Scr} {dp f : Nat} {h : Hp} {Q : Option Value → Hp → Prop}
theorem em_ok (s : Int32) (ws sg : List Int) (hf5 : f ≤ 5) (hh : HI h) (hp : PSt f h ws sg) (hl : sg.length < 100)
    (hQ : ∀ h', HI h' → frm WE h h' → LW f h h' → PSt f h' ws (sg ++ [s.toInt]) → Q none h') : Ends X dp 124 0 [.ref 93, .int s] [] h Q := by
  obtain ⟨p1, p2, p3, p4, p5⟩ := hp
  have q1 : (h.2.1 93 22).toNatClampNeg = 100 * f + sg.length := by show (h.2.1 93 22).toInt.toNat = _; omega
  refine w_emit s hh.hs ⟨inB_iff (by omega) (by omega), ?_⟩
  rw [q1]
  have v : (hpI h 106 (100 * f + sg.length) s).2.1 93 22 = h.2.1 93 22 := put_ne (by omega)
  rw [v]
  have g : (h.2.1 93 22 + 1).toInt = ((100 * f + sg.length + 1 : Nat) : Int) := by rw [i_add (by rw [i1]; omega) (by rw [i1]; omega), i1]; omega
  generalize h.2.1 93 22 + 1 = u at g ⊢
  refine hQ _ (HI_put (HI_put hh (i32r s).1 (i32r s).2) (by show (0 : Int) ≤ _; omega) (by show _ ≤ (600 : Int); omega)) (frm_put (frm_put frm_refl WE_in) rfl) (fun x hx => ?_) ⟨?_, ?_, ?_, fun j hj => ?_, fun j hj => ?_⟩
  · rw [put_ne (by omega), put_ne (by omega)]
  · rw [put_ne (by omega), put_ne (by omega)]; exact p1
  · rw [put_ne (by omega), put_ne (by omega)]; exact p2
  · rw [put_at, g]
    simp
    omega
  · rw [put_ne (by omega), put_ne (by omega)]; exact p4 j hj
  · rw [put_ne (by omega)]
    simp only [List.length_append, List.length_singleton] at hj
    by_cases c : j = sg.length
    · rw [c, put_at, getD_app2]
    · rw [put_ne (by omega), getD_app1 (by omega)]
      exact p5 j (by omega)
theorem opn_cons (w : Int) (ws : List Int) : opn (w :: ws) = (if w = 33 ∨ w = 40 then 1 else 0) + opn ws := by
  unfold opn
  rw [List.filter_cons]
  by_cases c : w = 33 ∨ w = 40
  · rw [if_pos c, if_pos (by simpa using c)]
    simp
    omega
  · rw [if_neg c, if_neg (by simpa using c)]
    omega
/-- the top leaves -/
theorem PSt.pop {w : Int} {ws sg : List Int} (hp : PSt f h (w :: ws) sg) {u : Int32} (hu : u.toInt = ws.length) : (hpI h 93 23 u).2.1 107 ws.length = h.2.1 107 ws.length ∧ (h.2.1 107 ws.length).toInt = w ∧ (∀ j, j < ws.length → (h.2.1 107 j).toInt = ws.getD (ws.length - 1 - j) 0) := by
  obtain ⟨p1, p2, p3, p4, p5⟩ := hp
  refine ⟨put_ne (by omega), ?_, fun j hj => ?_⟩
  · have := p4 ws.length (by simp)
    rw [this, show (w :: ws).length - 1 - ws.length = 0 by simp]
    rfl
  · rw [p4 j (by simp; omega), show (w :: ws).length - 1 - j = (ws.length - 1 - j) + 1 by simp; omega]
    simp
theorem whl_ok (hf5 : f ≤ 5) : ∀ (ws sg : List Int) (h : Hp), HI h → PSt f h ws sg → sg.length + ws.length ≤ 100 →
    (∀ h', HI h' → frm WW h h' → LW f h h' → PSt f h' (whlP ws sg).1 (whlP ws sg).2 → Q none h') → Ends X (dp + 1) 125 0 [.ref 93] [] h Q
  | [], sg, h, hh, hp, hl, hQ => by
    have p1 : (h.2.1 93 23).toInt = 0 := hp.1
    refine w_whole hh.hs ⟨fun e => hQ h hh frm_refl LW.rf hp, fun e => ?_⟩
    exfalso
    have e : ¬ (h.2.1 93 23).toInt ≤ 0 := of_decide_eq_false (cI e)
    omega
  | w :: ws, sg, h, hh, hp, hl, hQ => by
    have p1 : (h.2.1 93 23).toInt = ((ws.length + 1 : Nat) : Int) := hp.1
    have i33 : (33 : Int32).toInt = 33 := rfl
    simp only [List.length_cons] at hl
    have hw1 : (h.2.1 93 23 - 1).toInt = ws.length := by rw [i_sub (by rw [i1]; omega) (by rw [i1]; omega), i1]; omega
    have tp := hp.pop hw1
    refine w_whole hh.hs ⟨fun e => ?_, fun e => ⟨inB_iff (by omega) (by omega), fun e2 => ?_, fun e2 => ?_⟩⟩
    · exfalso
      have e : (h.2.1 93 23).toInt ≤ 0 := of_decide_eq_true (cI e)
      omega
    · have q : (h.2.1 93 23 - 1).toNatClampNeg = ws.length := by show (h.2.1 93 23 - 1).toInt.toNat = _; omega
      rw [q] at e2
      have e2 : ¬ (h.2.1 107 ws.length).toInt = 33 := of_decide_eq_true (cI e2)
      rw [tp.2.1] at e2
      rw [whlP, if_neg e2] at hQ
      exact hQ h hh frm_refl LW.rf hp
    · have q : (h.2.1 93 23 - 1).toNatClampNeg = ws.length := by show (h.2.1 93 23 - 1).toInt.toNat = _; omega
      rw [q] at e2
      have e2 : ¬ ¬ (h.2.1 107 ws.length).toInt = 33 := of_decide_eq_false (cI e2)
      rw [tp.2.1, Decidable.not_not] at e2
      rw [whlP, if_pos e2] at hQ
      refine em_ok (-33) (w :: ws) sg hf5 hh hp (by omega) (fun h2 hh2 f2 l2 s2 => ⟨rfl, hh2.hs, ?_⟩)
      have v23 : h2.2.1 93 23 = h.2.1 93 23 := frI f2 rfl
      rw [v23]
      generalize h.2.1 93 23 - 1 = u at hw1 ⊢
      have v24 : (hpI h2 93 23 u).2.1 93 24 = h2.2.1 93 24 := put_ne (by omega)
      rw [v24]
      obtain ⟨s21, s22, s23, s24, s25⟩ := s2
      have o1 := opn_cons w ws
      rw [if_pos (Or.inl e2)] at o1
      have ho : opn (w :: ws) ≤ (w :: ws).length := List.length_filter_le _ _
      simp only [List.length_cons] at ho
      have g24 : (h2.2.1 93 24 - 1).toInt = opn ws := by rw [i_sub (by rw [i1]; omega) (by rw [i1]; omega), i1]; omega
      generalize h2.2.1 93 24 - 1 = z at g24 ⊢
      have hh3 : HI (hpI (hpI h2 93 23 u) 93 24 z) := HI_put (HI_put hh2 (by show (0 : Int) ≤ _; omega) (by show _ ≤ (101 : Int); omega)) (i32r z).1 (i32r z).2
      have f3 : frm WW h (hpI (hpI h2 93 23 u) 93 24 z) := frm_put (frm_put (frm_sub (V := WE) (by decide) f2) rfl) rfl
      refine whl_ok hf5 ws (sg ++ [-33]) _ hh3 ⟨?_, ?_, ?_, fun j hj => ?_, fun j hj => ?_⟩ (by simp; omega) (fun h' a1 a2 a3 a4 => hQ h' a1 (frm_trans f3 a2) (LW.tr (LW.tr l2 (LW.tr (LW.put (by decide)) (LW.put (by decide)))) a3) a4)
      · rw [put_ne (by omega), put_at]; exact hw1
      · rw [put_at]; exact g24
      · rw [put_ne (by omega), put_ne (by omega)]; exact s23
      · rw [put_ne (by omega), put_ne (by omega), frI f2 rfl]; exact tp.2.2 j hj
      · rw [put_ne (by omega), put_ne (by omega)]; exact s25 j hj
theorem set_pop (s : Int32) (w : Int) (ws sg : List Int) (hf5 : f ≤ 5) (hh : HI h) (hp : PSt f h (w :: ws) sg) (hl : sg.length + ws.length + 1 ≤ 100) (hw : w = 38 ∨ w = 124) (u : Int32) (hu : u.toInt = ws.length)
    (ct : ∀ h', HI h' → frm WW h h' → LW f h h' → PSt f h' ws (sg ++ [-w]) → Ends X (dp + 1) 126 0 [.ref 93, .int s] [] h' Q) :
    inB ((hpI h 93 23 u).2.1 93 23) 101 = true ∧ Ends X dp 124 0 [.ref 93, .int (-((hpI h 93 23 u).2.1 107 ((hpI h 93 23 u).2.1 93 23).toNatClampNeg))] [] (hpI h 93 23 u) (fun rv h5 => rv = none ∧ HS h5 ∧ Ends X (dp + 1) 126 0 [.ref 93, .int s] [] h5 Q) := by
  have tp := hp.pop hu
  obtain ⟨p1, p2, p3, p4, p5⟩ := hp
  rw [put_at]
  have q : u.toNatClampNeg = ws.length := by show u.toInt.toNat = _; omega
  rw [q, tp.1]
  refine ⟨inB_iff (by omega) (by omega), ?_⟩
  have hneg : (-(h.2.1 107 ws.length)).toInt = -w := by rw [i_neg (by rw [tp.2.1]; omega), tp.2.1]
  have o1 := opn_cons w ws
  rw [if_neg (by omega)] at o1
  have hh1 : HI (hpI h 93 23 u) := HI_put hh (by show (0 : Int) ≤ _; omega) (by show _ ≤ (101 : Int); omega)
  have hp1 : PSt f (hpI h 93 23 u) ws sg := ⟨by rw [put_at]; exact hu, by rw [put_ne (by omega)]; omega, by rw [put_ne (by omega)]; exact p3, fun j hj => by rw [put_ne (by omega)]; exact tp.2.2 j hj, fun j hj => by rw [put_ne (by omega)]; exact p5 j hj⟩
  refine em_ok _ ws sg hf5 hh1 hp1 (by omega) (fun h' a1 a2 a3 a4 => ⟨rfl, a1.hs, ?_⟩)
  rw [hneg] at a4
  exact ct h' a1 (frm_trans (frm_put frm_refl rfl) (frm_sub (V := WE) (by decide) a2)) (LW.tr (LW.put (by decide)) a3) a4
theorem set_ok (hf5 : f ≤ 5) (s : Int32) (si : Int) (hs : s.toInt = si) : ∀ (ws sg : List Int) (h : Hp), HI h → PSt f h ws sg → sg.length + ws.length ≤ 100 →
    (∀ h', HI h' → frm WW h h' → LW f h h' → PSt f h' (setP si ws sg).1 (setP si ws sg).2 → Q none h') → Ends X (dp + 1) 126 0 [.ref 93, .int s] [] h Q
  | [], sg, h, hh, hp, hl, hQ => by
    have p1 : (h.2.1 93 23).toInt = 0 := hp.1
    refine w_settle s hh.hs ⟨fun e => hQ h hh frm_refl LW.rf hp, fun e => ?_⟩
    exfalso
    have e : ¬ (h.2.1 93 23).toInt ≤ 0 := of_decide_eq_false (cI e)
    omega
  | w :: ws, sg, h, hh, hp, hl, hQ => by
    have p1 : (h.2.1 93 23).toInt = ((ws.length + 1 : Nat) : Int) := hp.1
    simp only [List.length_cons] at hl
    have hw1 : (h.2.1 93 23 - 1).toInt = ws.length := by rw [i_sub (by rw [i1]; omega) (by rw [i1]; omega), i1]; omega
    have tp := hp.pop hw1
    have q : (h.2.1 93 23 - 1).toNatClampNeg = ws.length := by show (h.2.1 93 23 - 1).toInt.toNat = _; omega
    have hi : inB (h.2.1 93 23 - 1) 101 = true := inB_iff (by omega) (by omega)
    have ct : (w = 38 ∨ (w = 124 ∧ ¬ si = 38)) → ∀ h', HI h' → frm WW h h' → LW f h h' → PSt f h' ws (sg ++ [-w]) → Ends X (dp + 1) 126 0 [.ref 93, .int s] [] h' Q := by
      intro hc h1 a1 a2 a3 a4
      rw [setP, if_pos hc] at hQ
      exact set_ok hf5 s si hs ws (sg ++ [-w]) h1 a1 a4 (by simp; omega) (fun h' b1 b2 b3 b4 => hQ h' b1 (frm_trans a2 b2) (LW.tr a3 b3) b4)
    refine w_settle s hh.hs ⟨fun e => ?_, fun e => ⟨hi, fun e2 => ?_, fun e2 => ⟨hi, fun e3 => ?_, fun e3 => ⟨fun e4 => ?_, fun e4 => ?_⟩⟩⟩⟩
    · exfalso
      have e : (h.2.1 93 23).toInt ≤ 0 := of_decide_eq_true (cI e)
      omega
    all_goals rw [q] at e2
    · have e2 : (h.2.1 107 ws.length).toInt = 38 := of_decide_eq_true (cI e2)
      rw [tp.2.1] at e2
      exact set_pop s w ws sg hf5 hh hp (by omega) (Or.inl e2) _ hw1 (ct (Or.inl e2))
    all_goals
      have e2 : ¬ (h.2.1 107 ws.length).toInt = 38 := of_decide_eq_false (cI e2)
      rw [tp.2.1] at e2
      rw [q] at e3
    · have e3 : ¬ (h.2.1 107 ws.length).toInt = 124 := of_decide_eq_true (cI e3)
      rw [tp.2.1] at e3
      rw [setP, if_neg (by omega)] at hQ
      exact hQ h hh frm_refl LW.rf hp
    all_goals
      have e3 : ¬ ¬ (h.2.1 107 ws.length).toInt = 124 := of_decide_eq_false (cI e3)
      rw [tp.2.1, Decidable.not_not] at e3
    · have e4 : s.toInt = 38 := of_decide_eq_true (cI e4)
      rw [setP, if_neg (by omega)] at hQ
      exact hQ h hh frm_refl LW.rf hp
    · have e4 : ¬ s.toInt = 38 := of_decide_eq_false (cI e4)
      exact set_pop s w ws sg hf5 hh hp (by omega) (Or.inr e3) _ hw1 (ct (Or.inr ⟨e3, by omega⟩))
end ST
