/-! The class reads a yard, exactly. -/
/-- a clause: its word, its number, where its marks begin and end -/
abbrev Cl : Type := Int × Int × Nat × Nat
def cl0 : Cl := (0, 0, 0, 0)
/-- a clause, read from a on behind the marks m: whether, the place, the marks, word and number -/
def clP (T : Nat → Int) (n a : Nat) (m : List Int) : Bool × Nat × List Int × Int × Int :=
  if (wdP T n a).1 < 0 then (false, (wdP T n a).2, m, 0, 0)
  else if nxP T n (wdP T n a).2 = 32 then (match numP T n ((wdP T n a).2 + 1) with
    | none => (false, (wdP T n a).2 + 1, m, 0, 0)
    | some (v, b) => if nxP T n b = 32 then ((ecP T n (b + 1) m).1, (ecP T n (b + 1) m).2.1, (ecP T n (b + 1) m).2.2, (wdP T n a).1, v) else (false, b, m, 0, 0))
  else (false, (wdP T n a).2, m, 0, 0)
/-- one clause more -/
def snC (cs : List Cl) (m m' : List Int) (w v : Int) : List Cl := cs ++ [(w, v, m.length, m'.length)]
/-- a yard: k clauses may come -/
def gtP (T : Nat → Int) (n : Nat) : Nat → Nat → List Cl → List Int → Bool × Nat × List Cl × List Int
  | 0, a, cs, m => (false, a, cs, m)
  | k + 1, a, cs, m => if (clP T n a m).1 = true then (if (clP T n a m).2.1 = n then (true, n, snC cs m (clP T n a m).2.2.1 (clP T n a m).2.2.2.1 (clP T n a m).2.2.2.2, (clP T n a m).2.2.1)
      else if k = 0 then (false, (clP T n a m).2.1, snC cs m (clP T n a m).2.2.1 (clP T n a m).2.2.2.1 (clP T n a m).2.2.2.2, (clP T n a m).2.2.1)
      else if nxP T n (clP T n a m).2.1 = 59 then gtP T n k ((clP T n a m).2.1 + 1) (snC cs m (clP T n a m).2.2.1 (clP T n a m).2.2.2.1 (clP T n a m).2.2.2.2) (clP T n a m).2.2.1
      else (false, (clP T n a m).2.1, snC cs m (clP T n a m).2.2.1 (clP T n a m).2.2.2.1 (clP T n a m).2.2.2.2, (clP T n a m).2.2.1))
    else (false, (clP T n a m).2.1, cs, m)
/-- what comes behind a clause -/
def afP (T : Nat → Int) (n k a : Nat) (cs : List Cl) (m : List Int) : Bool × Nat × List Cl × List Int := if a = n then (true, n, cs, m) else if k = 0 then (false, a, cs, m) else if nxP T n a = 59 then gtP T n k (a + 1) cs m else (false, a, cs, m)
theorem gt_af {T : Nat → Int} {n k a : Nat} {cs : List Cl} {m : List Int} : gtP T n (k + 1) a cs m = if (clP T n a m).1 = true then afP T n k (clP T n a m).2.1 (snC cs m (clP T n a m).2.2.1 (clP T n a m).2.2.2.1 (clP T n a m).2.2.2.2) (clP T n a m).2.2.1 else (false, (clP T n a m).2.1, cs, m) := rfl
theorem lst_le (T : Nat → Int) (n : Nat) : ∀ (l : List Int) (a : Nat), a ≤ n → (∀ c ∈ l, 0 ≤ c) → a ≤ (lstP T n l a).2 ∧ (lstP T n l a).2 ≤ n
  | [], a, h, _ => ⟨Nat.le_refl _, h⟩
  | c :: l, a, h, hc => by
    unfold lstP
    split
    · rename_i x
      have c0 := hc c List.mem_cons_self
      have hl := nx_lt2 x (by omega)
      have := lst_le T n l (a + 1) (by omega) (fun d hd => hc d (List.mem_cons_of_mem _ hd))
      omega
    · exact ⟨Nat.le_refl _, h⟩
theorem sB_nn : ∀ s, s < 5 → ∀ c ∈ sB s, 0 ≤ c := by decide
theorem wd_le {T : Nat → Int} {n a : Nat} (h : a ≤ n) : a ≤ (wdP T n a).2 ∧ (wdP T n a).2 ≤ n ∧ -1 ≤ (wdP T n a).1 ∧ (wdP T n a).1 ≤ 2 := by
  unfold wdP
  split
  · rename_i x
    have hl := nx_lt2 x (by decide)
    have l := lst_le T n (sB 0) (a + 1) (by omega) (sB_nn 0 (by decide))
    refine ⟨by show a ≤ (lstP T n (sB 0) (a + 1)).2; omega, l.2, ?_, ?_⟩ <;> split <;> (dsimp only; decide)
  · split
    · rename_i x
      have hl := nx_lt2 x (by decide)
      have l := lst_le T n (sB 1) (a + 1) (by omega) (sB_nn 1 (by decide))
      refine ⟨by show a ≤ (lstP T n (sB 1) (a + 1)).2; omega, l.2, ?_, ?_⟩ <;> split <;> (dsimp only; decide)
    · split
      · rename_i x
        have hl := nx_lt2 x (by decide)
        have l := lst_le T n (sB 2) (a + 1) (by omega) (sB_nn 2 (by decide))
        refine ⟨by show a ≤ (lstP T n (sB 2) (a + 1)).2; omega, l.2, ?_, ?_⟩ <;> split <;> (dsimp only; decide)
      · exact ⟨Nat.le_refl _, h, by show (-1 : Int) ≤ -1; decide, by show (-1 : Int) ≤ 2; decide⟩
/-- what a clause that is read has of it -/
theorem clP_ok {T : Nat → Int} {n a : Nat} {m : List Int} (h : a ≤ n) (hok : (clP T n a m).1 = true) : a < (clP T n a m).2.1 ∧ (clP T n a m).2.1 ≤ n ∧ (clP T n a m).2.2.1.length + a ≤ m.length + (clP T n a m).2.1 ∧ 0 ≤ (clP T n a m).2.2.2.1 ∧ (clP T n a m).2.2.2.1 ≤ 2 ∧ 0 ≤ (clP T n a m).2.2.2.2 ∧ (clP T n a m).2.2.2.2 ≤ 99 := by
  have w := wd_le (T := T) h
  unfold clP at hok ⊢
  by_cases c1 : (wdP T n a).1 < 0
  · rw [if_pos c1] at hok
    simp at hok
  · rw [if_neg c1] at hok ⊢
    by_cases c2 : nxP T n (wdP T n a).2 = 32
    · rw [if_pos c2] at hok ⊢
      have l2 := nx_lt2 c2 (by decide)
      cases hnum : numP T n ((wdP T n a).2 + 1) with
      | none =>
        rw [hnum] at hok
        simp at hok
      | some q =>
        obtain ⟨v, b⟩ := q
        rw [hnum] at hok
        have nv := numP_le hnum
        have nl := numP_le2 hnum
        simp only at hok ⊢
        by_cases c3 : nxP T n b = 32
        · rw [if_pos c3] at hok ⊢
          have l3 := nx_lt2 c3 (by decide)
          have e := cP_len T n 609 2 0 (b + 1) m (by omega) hok
          refine ⟨by show a < (ecP T n (b + 1) m).2.1; unfold ecP; omega, e.2.1, ?_, by show 0 ≤ (wdP T n a).1; omega, w.2.2.2, nv.2.1, nv.2.2⟩
          show (ecP T n (b + 1) m).2.2.length + a ≤ m.length + (ecP T n (b + 1) m).2.1
          unfold ecP
          omega
        · rw [if_neg c3] at hok
          simp at hok
    · rw [if_neg c2] at hok
      simp at hok
def CWC (q : Nat) : List (Nat × Nat) := [(44, 2), (q, 0), (q, 5), (q + 1, 999), (q + 2, 999), (q + 3, 999), (q + 4, 999)]
theorem CWC_E {q : Nat} {h h' : Hp} (hf : frm (CWE q) h h') : frm (CWC q) h h' := frm_sub (W := CWC q) (by simp [subW, CWE, CWC]) hf
theorem CWC_A {q : Nat} {h h' : Hp} (hf : frm CWA h h') : frm (CWC q) h h' := frm_sub (W := CWC q) (by simp [subW, CWA, CWC]) hf
theorem CWC_n {q a k : Nat} (h1 : ¬ (a = 44 ∧ k = 2)) (h2 : a < q ∨ q + 4 < a) : inW (CWC q) a k = false := by
  simp only [inW, CWC, List.any_cons, List.any_nil, Bool.or_false, Bool.or_eq_false_iff, Bool.and_eq_false_iff, beq_eq_false_iff_ne]
  refine ⟨?_, ?_, ?_, ?_, ?_, ?_, ?_⟩
  · by_cases c : 44 = a
    · exact Or.inr ⟨by omega, by decide⟩
    · exact Or.inl c
  all_goals exact Or.inl (by omega)
theorem CWC_i {q j k : Nat} (hj : 1 ≤ j ∧ j ≤ 4) : inW (CWC q) (q + j) k = true := by
  match j, hj with
  | 0, h => omega
  | 1, _ => simp [inW, CWC]
  | 2, _ => simp [inW, CWC]
  | 3, _ => simp [inW, CWC]
  | 4, _ => simp [inW, CWC]
  | j + 5, h => omega
theorem CWC_0 {q : Nat} : inW (CWC q) q 0 = true := by simp [inW, CWC]
/-- what the class has read so far of a yard -/
def RCl (q : Nat) (h : Hp) (cs : List Cl) (m : List Int) : Prop := RSt q h m ∧ (h.2.1 q 0).toInt = (cs.length : Int) ∧ ∀ c, c < cs.length → (h.2.1 (q + 1) c).toInt = (cs.getD c cl0).1 ∧ (h.2.1 (q + 2) c).toInt = (cs.getD c cl0).2.1 ∧ (h.2.1 (q + 3) c).toInt = ((cs.getD c cl0).2.2.2 : Int)
theorem iv_q0 {q : Nat} (hY : YQ q) : ivl q 0 = (0, 10) := of_decide_eq_true (yq (P := fun q => decide (ivl q 0 = (0, 10))) hY (by decide +kernel))
theorem iv_qa {q : Nat} (hY : YQ q) : ∀ j, j < 10 → ivl (q + 1) j = (-2147483648, 2147483647) ∧ ivl (q + 2) j = (-2147483648, 2147483647) ∧ ivl (q + 3) j = (-2147483648, 2147483647) := by
  have := yq (P := fun q => (List.range 10).all (fun j => decide (ivl (q + 1) j = (-2147483648, 2147483647)) && decide (ivl (q + 2) j = (-2147483648, 2147483647)) && decide (ivl (q + 3) j = (-2147483648, 2147483647)))) hY (by decide +kernel)
  intro j hj
  have q := List.all_eq_true.mp this j (List.mem_range.mpr hj)
  simp only [Bool.and_eq_true, decide_eq_true_eq] at q
  exact ⟨q.1.1, q.1.2, q.2⟩
section CTX
variable {X : Scr} {q : Nat}
theorem getC1 {l : List Cl} {x : Cl} {j : Nat} (h : j < l.length) : (l ++ [x]).getD j cl0 = l.getD j cl0 := by
  rw [List.getD_eq_getElem?_getD, List.getElem?_append_left h, List.getD_eq_getElem?_getD]
theorem getC2 {l : List Cl} {x : Cl} : (l ++ [x]).getD l.length cl0 = x := by
  rw [List.getD_eq_getElem?_getD, List.getElem?_append_right (Nat.le_refl _), Nat.sub_self]
  rfl
theorem RCl.frE (hY : YQ q) {h h' : Hp} {cs : List Cl} {m m' : List Int} (hp : RCl q h cs m) (hf : frm (CWE q) h h') (hm : RSt q h' m') : RCl q h' cs m' := by
  have r := yq_rng hY
  refine ⟨hm, by rw [frI hf (CWE_n (by omega) (by omega) (by omega))]; exact hp.2.1, fun c hc => ?_⟩
  rw [frI hf (a := q + 1) (CWE_n (by omega) (by omega) (by omega)), frI hf (a := q + 2) (CWE_n (by omega) (by omega) (by omega)), frI hf (a := q + 3) (CWE_n (by omega) (by omega) (by omega))]
  exact hp.2.2 c hc
theorem cls_x (hY : YQ q) {dp : Nat} {h : Hp} {Q : Option Value → Hp → Prop} (w v : Int32) (f0 : Nat) (cs : List Cl) (m : List Int) (hh : HI h) (hp : RCl q h cs m) (hl : cs.length < 10) (hm : m.length ≤ 100)
    (hQ : ∀ h', HI h' → frm (CWC q) h h' → xA h' = xA h → RCl q h' (cs ++ [(w.toInt, v.toInt, f0, m.length)]) m → Q none h') : Ends X dp 56 0 [.ref q, .int w, .int v] [] h Q := by
  have r := yq_rng hY
  obtain ⟨⟨p1, p2, p3⟩, p4, p5⟩ := hp
  have j10 : (10 : Int32).toInt = 10 := rfl
  refine w_cls hY w v hh.hs ⟨fun e => ?_, fun e => ?_⟩
  · exfalso
    have e : (10 : Int32).toInt ≤ (h.2.1 q 0).toInt := of_decide_eq_true (cI e)
    omega
  · have ib : inB (h.2.1 q 0) 10 = true := inB_iff (by omega) (by omega)
    refine ⟨ib, ib, ib, ?_⟩
    have g : (h.2.1 q 0 + 1).toInt = (cs.length : Int) + 1 := by rw [i_add (by rw [i1]; omega) (by rw [i1]; omega), i1, p4]
    obtain ⟨i1', i2', i3'⟩ := iv_qa hY cs.length hl
    have i0 := iv_q0 hY
    have en : (h.2.1 q 0).toNatClampNeg = cs.length := by show (h.2.1 q 0).toInt.toNat = _; omega
    rw [en]
    generalize h.2.1 q 0 + 1 = u at g ⊢
    have hw := i32r w
    have hv := i32r v
    have h5 := i32r (h.2.1 q 5)
    simp only [fI] at hw hv h5
    generalize hz : h.2.1 q 5 = z at p2 h5 ⊢
    refine hQ _ (HI_put (HI_put (HI_put (HI_put hh (by rw [i1']; exact hw.1) (by rw [i1']; exact hw.2)) (by rw [i2']; exact hv.1) (by rw [i2']; exact hv.2)) (by rw [i3']; exact h5.1) (by rw [i3']; exact h5.2)) (by rw [i0]; show (0 : Int) ≤ _; omega) (by rw [i0]; show _ ≤ (10 : Int); omega))
      (frm_put (frm_put (frm_put (frm_put frm_refl (CWC_i (by omega))) (CWC_i (by omega))) (CWC_i (by omega))) CWC_0) ?_ ⟨⟨p1, ?_, fun j hj => ?_⟩, ?_, fun c hc => ?_⟩
    · unfold xA
      rw [put_ne (by omega), put_ne (by omega), put_ne (by omega), put_ne (by omega)]
    · rw [put_ne (by omega), put_ne (by omega), put_ne (by omega), put_ne (by omega), hz]
      exact p2
    · rw [put_ne (by omega), put_ne (by omega), put_ne (by omega), put_ne (by omega)]
      exact p3 j hj
    · rw [put_at, g, List.length_append, List.length_singleton]
      rfl
    · rw [List.length_append, List.length_singleton] at hc
      rw [put_ne (a := q) (by omega), put_ne (a := q + 3) (by omega), put_ne (a := q + 2) (by omega), put_if, put_ne (a := q) (b := q + 2) (by omega), put_ne (a := q + 3) (b := q + 2) (by omega), put_if, put_ne (a := q) (b := q + 3) (by omega), put_if]
      by_cases d : c = cs.length
      · rw [if_pos d, if_pos d, if_pos d, d, getC2]
        exact ⟨rfl, rfl, p2⟩
      · rw [if_neg d, if_neg d, if_neg d, getC1 (by omega), put_ne (by omega), put_ne (by omega), put_ne (by omega)]
        exact p5 c (by omega)
/-- the class reads a clause -/
theorem cC_ok (hY : YQ q) (T : Nat → Int) (n : Nat) (hn : n ≤ 100) {a : Nat} (cs : List Cl) (m : List Int) {h : Hp} {Q : Option Value → Hp → Prop} (hc : CST q T n a m h) (hcs : RCl q h cs m) (hl : cs.length < 10) (ha : a ≤ n) (hm : m.length ≤ a)
    (hQ : ∀ h', HI h' → frm (CWC q) h h' → xA h' = (clP T n a m).2.1 → ((clP T n a m).1 = true → RCl q h' (snC cs m (clP T n a m).2.2.1 (clP T n a m).2.2.2.1 (clP T n a m).2.2.2.2) (clP T n a m).2.2.1) → Q (some (.int (b2i (clP T n a m).1))) h') : Ends X 20 43 0 [.ref 44, .retAddr 0, .retAddr 0] [] h Q := by
  obtain ⟨hh, hp, eT, eN, eA⟩ := id hc
  have j32 : (32 : Int32).toInt = 32 := rfl
  have z0 : (0 : Int32).toInt = 0 := rfl
  unfold clP at hQ
  have wl := wd_le (T := T) ha
  refine w_rc (dp := 19) hY hh.hs (Ends.dpl (by decide) (rw_ok (dp := 0) hh (fun r1 h1 g1 g2 g3 g4 => ⟨r1, rfl, g1.hs, fun c => ?_, fun c => ?_⟩)))
  all_goals
    rw [eT, eN, eA] at g3 g4
  · have c : r1.toInt < 0 := of_decide_eq_true (cI c)
    rw [if_pos (by omega)] at hQ
    exact hQ h1 g1 (CWC_A g2) g4 (fun z => by simp at z)
  · have c : ¬ r1.toInt < 0 := of_decide_eq_false (cI c)
    rw [if_neg (by omega)] at hQ
    have hc1 := CST_A hY T n hc g1 g2 g4
    refine Ends.dpl (by decide) (ct_ok (dp := 0) 32 (by decide) g1 (fun h2 k1 k2 k3 => ⟨_, rfl, k1.hs, fun c2 => ?_, fun c2 => ?_⟩))
    · have c2 := of_decide_eq_true (cn2 c2)
      rw [if_pos c2, g4] at k3
      rw [hc1.2.2.1, hc1.2.2.2.1, g4] at c2
      have c2 : nxP T n (wdP T n a).2 = 32 := c2
      have l2 := nx_lt2 c2 (by decide)
      rw [if_pos c2] at hQ
      have hc2 := CST_A hY T n hc1 k1 k2 k3
      refine Ends.dpl (by decide) (rn_ok (dp := 0) k1 (fun r3 h3 l1 l2' l3 => ⟨r3, rfl, l1.hs, fun c3 => ?_, fun c3 => ?_⟩))
      all_goals rw [hc2.2.2.1, hc2.2.2.2.1, k3] at l3
      · have c3 : r3.toInt < 0 := of_decide_eq_true (cI c3)
        cases hnum : numP T n ((wdP T n a).2 + 1) with
        | none =>
          rw [hnum] at l3 hQ
          exact hQ h3 l1 (CWC_A (frm_trans g2 (frm_trans k2 l2'))) l3.2 (fun z => by simp at z)
        | some w =>
          obtain ⟨v, b⟩ := w
          rw [hnum] at l3
          have nv := numP_le hnum
          have := l3.1
          omega
      · have c3 : ¬ r3.toInt < 0 := of_decide_eq_false (cI c3)
        cases hnum : numP T n ((wdP T n a).2 + 1) with
        | none =>
          rw [hnum] at l3
          have := l3.1
          omega
        | some w =>
          obtain ⟨v, b⟩ := w
          rw [hnum] at l3 hQ
          simp only at hQ
          have nl := numP_le2 hnum
          have hc3 := CST_A hY T n hc2 l1 l2' l3.2
          have f3 : frm CWA h h3 := frm_trans g2 (frm_trans k2 l2')
          refine Ends.dpl (by decide) (ct_ok (dp := 0) 32 (by decide) l1 (fun h4 y1 y2 y3 => ⟨_, rfl, y1.hs, fun c4 => ?_, fun c4 => ?_⟩))
          · have c4 := of_decide_eq_false (cz c4)
            rw [if_neg c4, l3.2] at y3
            rw [hc3.2.2.1, hc3.2.2.2.1, l3.2] at c4
            rw [if_neg (show ¬ nxP T n b = 32 from c4)] at hQ
            exact hQ h4 y1 (CWC_A (frm_trans f3 y2)) y3 (fun z => by simp at z)
          · have c4 := of_decide_eq_true (cn c4)
            rw [if_pos c4, l3.2] at y3
            rw [hc3.2.2.1, hc3.2.2.2.1, l3.2] at c4
            have c4 : nxP T n b = 32 := c4
            have l4 := nx_lt2 c4 (by decide)
            rw [if_pos c4] at hQ
            have hc4 := CST_A hY T n hc3 y1 y2 y3
            have f4 : frm CWA h h4 := frm_trans f3 y2
            have hcs4 : RCl q h4 cs m := RCl.frE hY hcs (sub_A f4) hc4.2.1
            refine cE_ok hY T n hn hc4 (by omega) (by omega) (fun h5 hE => ⟨_, rfl, hE.1.hs, fun c5 => ⟨RSt_ref hY hc4.2.1 hE.2.1, ?_⟩, fun c5 => ?_⟩)
            · have c5 := cn2 c5
              have le5 := cP_len T n 609 2 0 (b + 1) m (by omega) c5
              have hc5 : RCl q h5 cs (ecP T n (b + 1) m).2.2 := RCl.frE hY hcs4 hE.2.1 (hE.2.2.2 c5)
              refine cls_x hY r1 r3 m.length cs (ecP T n (b + 1) m).2.2 hE.1 hc5 hl (by unfold ecP; omega) (fun h6 x1 x2 x3 x4 => ⟨rfl, x1.hs, ?_⟩)
              rw [c5] at hQ
              refine hQ h6 x1 (frm_trans (CWC_A f4) (frm_trans (CWC_E hE.2.1) x2)) (x3.trans hE.2.2.1) (fun _ => ?_)
              have e1 : r1.toInt = (wdP T n a).1 := g3
              have e2 : r3.toInt = v := l3.1
              rw [e1, e2] at x4
              exact x4
            · have c5 := cz2 c5
              rw [c5] at hQ
              exact hQ h5 hE.1 (frm_trans (CWC_A f4) (CWC_E hE.2.1)) hE.2.2.1 (fun z => by simp at z)
    · have c2 := of_decide_eq_false (cz2 c2)
      rw [if_neg c2, g4] at k3
      rw [hc1.2.2.1, hc1.2.2.2.1, g4] at c2
      rw [if_neg (show ¬ nxP T n (wdP T n a).2 = 32 from c2)] at hQ
      exact hQ h2 k1 (CWC_A (frm_trans g2 k2)) k3 (fun z => by simp at z)
/-- how the reading of a yard ends -/
def GED (q : Nat) (h : Hp) (r : Bool × Nat × List Cl × List Int) (v : Int32) (h' : Hp) : Prop := HI h' ∧ frm (CWC q) h h' ∧ (v.toInt = (if r.1 = true then -1 else (r.2.1 : Int)) ∧ v.toInt ≤ 100) ∧ (r.1 = true → RCl q h' r.2.2.1 r.2.2.2)
theorem b_ri (hY : YQ q) {dp : Nat} {h : Hp} {Q : Option Value → Hp → Prop} (i : Int32) (hs : HS h) (hQ : Q (some (.int (h.2.1 44 2))) h) : Ends X (dp + 1) 42 24 [.ref 44, .ref q, .int 0, .int i] [] h Q :=
  w_ri1 hY 0 i hs ⟨fun _ => ⟨fun _ => hQ, fun e => absurd e (by decide)⟩, fun _ => ⟨fun _ => ⟨fun _ => hQ, fun e => absurd e (by decide)⟩, fun e => absurd e (by decide)⟩⟩
theorem ri_go (hY : YQ q) (T : Nat → Int) (n : Nat) (hn : n ≤ 100) {h0 : Hp} {Q : Option Value → Hp → Prop} : ∀ (k a : Nat) (cs : List Cl) (m : List Int) (i : Int32) (h : Hp), CST q T n a m h → frm (CWC q) h0 h → RCl q h cs m → cs.length + k = 10 → i.toInt = (cs.length : Int) → a ≤ n → m.length ≤ a →
    (∀ (v : Int32) h', GED q h0 (afP T n k a cs m) v h' → Q (some (.int v)) h') → Ends X 21 42 24 [.ref 44, .ref q, .int 1, .int i] [] h Q
  | k, a, cs, m, i, h, hc, hf, hcs, hk, hi, ha, hm, hQ => by
    obtain ⟨hh, hp, eT, eN, eA⟩ := id hc
    have j10 : (10 : Int32).toInt = 10 := rfl
    have j59 : (59 : Int32).toInt = 59 := rfl
    obtain ⟨a1, a2⟩ := xA_v hh
    obtain ⟨b1, b2⟩ := xN_v hh
    rw [eA] at a1
    rw [eN] at b1
    -- at the end
    have done : a = n → Q (some (.int (-1))) h := fun x => by
      unfold afP at hQ
      rw [if_pos x] at hQ
      exact hQ (-1) h ⟨hh, hf, ⟨by rw [if_pos rfl]; rfl, by decide⟩, fun _ => hcs⟩
    have out : ∀ h', HI h' → frm CWA h h' → xA h' = a → ¬ a = n → (k = 0 ∨ nxP T n a ≠ 59) → Q (some (.int (h'.2.1 44 2))) h' := by
      intro h' g1 g2 g3 x y
      unfold afP at hQ
      rw [if_neg x] at hQ
      have v := (xA_v g1).1
      have v2 := (xA_v g1).2
      by_cases k0 : k = 0
      · rw [if_pos k0] at hQ
        exact hQ _ h' ⟨g1, frm_trans hf (CWC_A g2), ⟨by rw [v, g3]; rfl, by rw [v]; omega⟩, fun z => by simp at z⟩
      · rw [if_neg k0, if_neg (by rcases y with y | y; exact absurd y k0; exact y)] at hQ
        exact hQ _ h' ⟨g1, frm_trans hf (CWC_A g2), ⟨by rw [v, g3]; rfl, by rw [v]; omega⟩, fun z => by simp at z⟩
    have fin : (k = 0 ∨ a = n) → (condB .ne (h.2.1 44 2) (h.2.1 44 1) = true → Q (some (.int (h.2.1 44 2))) h) ∧ (condB .ne (h.2.1 44 2) (h.2.1 44 1) = false → Q (some (.int (-1))) h) := by
      intro kk
      refine ⟨fun e => ?_, fun e => ?_⟩
      · have e : ¬ (h.2.1 44 2).toInt = (h.2.1 44 1).toInt := of_decide_eq_true (cI e)
        exact out h hh frm_refl eA (by omega) (by rcases kk with kk | kk; exact Or.inl kk; omega)
      · have e : ¬ ¬ (h.2.1 44 2).toInt = (h.2.1 44 1).toInt := of_decide_eq_false (cI e)
        exact done (by omega)
    refine w_ri1 (dp := 20) hY 1 i hh.hs ⟨fun c => ⟨fun e => absurd e (by decide), fun _ => fin ?_⟩, fun c => ⟨fun e => absurd e (by decide), fun _ => ⟨fun c2 => ⟨fun e => absurd e (by decide), fun _ => fin ?_⟩, fun c2 => Ends.dpl (by decide) (ct_ok (dp := 0) 59 (by decide) hh (fun h1 g1 g2 g3 => ⟨_, rfl, g1.hs, fun c3 => ?_, fun c3 => ?_⟩))⟩⟩⟩
    · have c : (10 : Int32).toInt ≤ i.toInt := of_decide_eq_true (cI c)
      exact Or.inl (by omega)
    · have c2 : (h.2.1 44 1).toInt ≤ (h.2.1 44 2).toInt := of_decide_eq_true (cI c2)
      exact Or.inr (by omega)
    · have c : ¬ (10 : Int32).toInt ≤ i.toInt := of_decide_eq_false (cI c)
      have c2 : ¬ (h.2.1 44 1).toInt ≤ (h.2.1 44 2).toInt := of_decide_eq_false (cI c2)
      have c3 := of_decide_eq_false (cz c3)
      rw [if_neg c3, eA] at g3
      rw [eT, eN, eA] at c3
      exact b_ri hY (i + 1) g1.hs (out h1 g1 g2 g3 (by omega) (Or.inr c3))
    · have c : ¬ (10 : Int32).toInt ≤ i.toInt := of_decide_eq_false (cI c)
      have c2 : ¬ (h.2.1 44 1).toInt ≤ (h.2.1 44 2).toInt := of_decide_eq_false (cI c2)
      have c3 := of_decide_eq_true (cn c3)
      rw [if_pos c3, eA] at g3
      rw [eT, eN, eA] at c3
      have x : nxP T n a = 59 := c3
      have hl := nx_lt2 x (by decide)
      have hc1 := CST_A hY T n hc g1 g2 g3
      have hcs1 : RCl q h1 cs m := RCl.frE hY hcs (sub_A g2) hc1.2.1
      have f1 : frm (CWC q) h0 h1 := frm_trans hf (CWC_A g2)
      have i1' : (i + 1).toInt = i.toInt + 1 := by rw [i_add (by rw [i1]; omega) (by rw [i1]; omega), i1]
      match k, hk with
      | 0, hk => omega
      | k + 1, hk =>
        unfold afP at hQ
        rw [if_neg (by omega), if_neg (by omega), if_pos x, gt_af] at hQ
        refine cC_ok hY T n hn cs m hc1 hcs1 (by omega) (by omega) (by omega) (fun h2 k1 k2 k3 k4 => ⟨_, rfl, k1.hs, fun c5 => ?_, fun c5 => ?_⟩)
        · have c5 := cz c5
          rw [if_neg (by rw [c5]; decide)] at hQ
          refine b_ri hY (i + 1) k1.hs (hQ _ h2 ⟨k1, frm_trans f1 k2, ?_, fun z => by simp at z⟩)
          have v2 := xA_v k1
          refine ⟨?_, by omega⟩
          rw [v2.1, k3]
          rfl
        · have c5 := cn c5
          rw [if_pos c5] at hQ
          have le := clP_ok (m := m) (by omega : a + 1 ≤ n) c5
          have hc2 : CST q T n (clP T n (a + 1) m).2.1 (clP T n (a + 1) m).2.2.1 h2 := by
            have r := yq_rng hY
            exact ⟨k1, (k4 c5).1, by rw [← hc1.2.2.1]; funext j; unfold xT; rw [frI k2 (CWC_n (by omega) (by omega))], by rw [← hc1.2.2.2.1]; unfold xN; rw [frI k2 (CWC_n (by omega) (by omega))], k3⟩
          refine ri_go hY T n hn k (clP T n (a + 1) m).2.1 _ (clP T n (a + 1) m).2.2.1 (i + 1) h2 hc2 (frm_trans f1 k2) (k4 c5) ?_ ?_ le.2.1 (by omega) hQ
          · unfold snC
            rw [List.length_append, List.length_singleton]
            omega
          · unfold snC
            rw [List.length_append, List.length_singleton, i1', hi]
            rfl
/-- the class reads a yard -/
theorem cI_ok (hY : YQ q) {h : Hp} {Q : Option Value → Hp → Prop} (hh : HI h) (hQ : ∀ (v : Int32) h', HI h' → frm (CWC q ++ [(44, 3)]) h h' → v.toInt = (if (gtP (xT h) (xN h) 10 0 [] []).1 = true then -1 else ((gtP (xT h) (xN h) 10 0 [] []).2.1 : Int)) ∧ v.toInt ≤ 100 → ((gtP (xT h) (xN h) 10 0 [] []).1 = true → RCl q h' (gtP (xT h) (xN h) 10 0 [] []).2.2.1 (gtP (xT h) (xN h) 10 0 [] []).2.2.2) → Q (some (.int v)) h') : Ends X 21 42 0 [.ref 44, .ref q, .retAddr 0, .retAddr 0] [] h Q := by
  have r := yq_rng hY
  have hn := (xN_v hh).2
  have i0 := iv_q0 hY
  have i5 := iv_q5 hY
  have hh1 : HI (hpI (hpI (hpI (hpQ h q) q 0 0) q 5 0) 44 2 0) := HI_put (HI_put (HI_put (HI_Q hY hh) (by rw [i0]; decide) (by rw [i0]; decide)) (by rw [i5]; decide) (by rw [i5]; decide)) (by show (0 : Int) ≤ 0; decide) (by show (0 : Int) ≤ 100; decide)
  have fQ : frm [(44, 3)] h (hpQ h q) := by
    intro a k hk
    refine ⟨rfl, rfl, ?_⟩
    show ud h.2.2.2 44 3 (some q) a k = _
    unfold ud
    by_cases d : a = 44 ∧ k = 3
    · rw [d.1, d.2] at hk
      simp [inW] at hk
    · by_cases e : a = 44
      · have : ¬ k = 3 := fun z => d ⟨e, z⟩
        rw [if_pos e]
        subst e
        exact if_neg this
      · rw [if_neg e]
  have f1 : frm (CWC q ++ [(44, 3)]) h (hpI (hpI (hpI (hpQ h q) q 0 0) q 5 0) 44 2 0) := by
    have s1 : inW (CWC q ++ [(44, 3)]) q 0 = true := by simp [inW, CWC]
    have s2 : inW (CWC q ++ [(44, 3)]) q 5 = true := by simp [inW, CWC]
    have s3 : inW (CWC q ++ [(44, 3)]) 44 2 = true := by simp [inW, CWC]
    exact frm_put (frm_put (frm_put (frm_sub (V := [(44, 3)]) (by simp [subW]) fQ) s1) s2) s3
  have eT : xT (hpI (hpI (hpI (hpQ h q) q 0 0) q 5 0) 44 2 0) = xT h := by
    funext j
    unfold xT
    rw [put_ne (by omega), put_ne (by omega), put_ne (by omega)]
    rfl
  have eN : xN (hpI (hpI (hpI (hpQ h q) q 0 0) q 5 0) 44 2 0) = xN h := by
    unfold xN
    rw [put_ne (by omega), put_ne (by omega), put_ne (by omega)]
    rfl
  have eA : xA (hpI (hpI (hpI (hpQ h q) q 0 0) q 5 0) 44 2 0) = 0 := by
    unfold xA
    rw [put_at]
    rfl
  have rs : RSt q (hpI (hpI (hpI (hpQ h q) q 0 0) q 5 0) 44 2 0) [] := ⟨hpQ_at (h := h), by rw [put_ne (by omega), put_at]; rfl, fun j hj => absurd hj (Nat.not_lt_zero j)⟩
  have rc : RCl q (hpI (hpI (hpI (hpQ h q) q 0 0) q 5 0) 44 2 0) [] [] := ⟨rs, by rw [put_ne (by omega), put_ne (by omega), put_at]; rfl, fun j hj => absurd hj (Nat.not_lt_zero j)⟩
  have sub : ∀ {h1 h2 : Hp}, frm (CWC q) h1 h2 → frm (CWC q ++ [(44, 3)]) h1 h2 := fun {h1 h2} hf a k hk => hf a k (by
    simp only [inW, List.any_append, Bool.or_eq_false_iff] at hk
    exact hk.1)
  refine w_ri0 (dp := 20) hY hh.hs ⟨hpQ_at, w_clr hY (hs_Q hY hh.hs) ⟨rfl, (HI_Q hY hh).hs, ?_⟩⟩
  generalize hpI (hpI (hpI (hpQ h q) q 0 0) q 5 0) 44 2 0 = h1 at hh1 f1 eT eN eA rs rc ⊢
  have hc : CST q (xT h) (xN h) 0 [] h1 := ⟨hh1, rs, eT, eN, eA⟩
  rw [gt_af] at hQ
  refine cC_ok hY (xT h) (xN h) hn [] [] hc rc (by decide) (Nat.zero_le _) (Nat.le_refl _) (fun h2 k1 k2 k3 k4 => ⟨_, rfl, k1.hs, ?_⟩)
  cases c5 : (clP (xT h) (xN h) 0 []).1 with
  | false =>
    rw [c5, if_neg Bool.false_ne_true] at hQ
    refine b_ri hY 1 k1.hs (hQ _ h2 k1 (frm_trans f1 (sub k2)) ?_ (fun z => by simp at z))
    have v2 := xA_v k1
    refine ⟨?_, by omega⟩
    rw [v2.1, k3]
    rfl
  | true =>
    rw [if_pos c5] at hQ
    have le := clP_ok (m := []) (Nat.zero_le (xN h)) c5
    have hc2 : CST q (xT h) (xN h) (clP (xT h) (xN h) 0 []).2.1 (clP (xT h) (xN h) 0 []).2.2.1 h2 :=
      ⟨k1, (k4 c5).1, by rw [← hc.2.2.1]; funext j; unfold xT; rw [frI k2 (CWC_n (by omega) (by omega))], by rw [← hc.2.2.2.1]; unfold xN; rw [frI k2 (CWC_n (by omega) (by omega))], k3⟩
    exact ri_go hY (xT h) (xN h) hn (h0 := h1) 9 (clP (xT h) (xN h) 0 []).2.1 _ (clP (xT h) (xN h) 0 []).2.2.1 1 h2 hc2 k2 (k4 c5) rfl rfl le.2.1 (by have := le.2.2.1; simpa using this) (fun v h' g => hQ v h' g.1 (frm_trans f1 (sub g.2.1)) g.2.2.1 g.2.2.2)
end CTX
