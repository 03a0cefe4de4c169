/-! Yards that are read. -/
def WGT : List (Nat × Nat) := [(93, 12), (93, 13), (93, 22), (93, 23), (93, 24), (101, 999), (102, 999), (103, 999), (104, 999), (105, 999), (106, 999), (107, 999)]
theorem sub_CL {cn : Nat} {h h' : Hp} (hf : frm (WCL cn) h h') : frm WGT h h' := frm_sub (W := WGT) (by simp [subW, WCL, WGT]) hf
/-- what lies below the yard that is read is left as it was -/
def LOW (f : Nat) (h h' : Hp) : Prop := LW f h h' ∧ (∀ g, g ≠ f → g < 900 → h'.2.1 101 g = h.2.1 101 g) ∧ ∀ c, c < 10 * f → c < 900 → h'.2.1 104 c = h.2.1 104 c ∧ h'.2.1 105 c = h.2.1 105 c
theorem LOW.rf {f : Nat} {h : Hp} : LOW f h h := ⟨LW.rf, fun _ _ _ => rfl, fun _ _ _ => ⟨rfl, rfl⟩⟩
theorem LOW.tr {f : Nat} {h h' h'' : Hp} (a : LOW f h h') (b : LOW f h' h'') : LOW f h h'' := ⟨LW.tr a.1 b.1, fun g h1 h2 => (b.2.1 g h1 h2).trans (a.2.1 g h1 h2), fun c h1 h2 => ⟨(b.2.2 c h1 h2).1.trans (a.2.2 c h1 h2).1, (b.2.2 c h1 h2).2.trans (a.2.2 c h1 h2).2⟩⟩
theorem WCL_lo {cn a k : Nat} (hk : k < 900) (hcn : cn < 900) (hn : (a = 104 ∨ a = 105) ∧ k ≠ cn) : inW (WCL cn) a k = false := by
  obtain ⟨ha, hk2⟩ := hn
  have h1 : (cn == k) = false := by simpa using fun q => hk2 q.symm
  rcases ha with rfl | rfl
  · simp [inW, WCL, h1]
    omega
  · simp [inW, WCL, h1]
    omega
theorem LOW.cl {f cn : Nat} {h h' : Hp} (hf : frm (WCL cn) h h') (hl : LW f h h') (hcn : 10 * f ≤ cn) (hc9 : cn < 900) : LOW f h h' :=
  ⟨hl, fun g _ _ => frI hf rfl, fun c h1 h2 => ⟨frI hf (WCL_lo h2 hc9 ⟨Or.inl rfl, by omega⟩), frI hf (WCL_lo h2 hc9 ⟨Or.inr rfl, by omega⟩)⟩⟩
section GT
variable {X : Scr} {dp f : Nat} {h0 : Hp} {Q : Option Value → Hp → Prop}
theorem gt_loop (fv : Int32) (hfv : fv.toInt = f) (hf5 : f ≤ 5)
    (q0 : ∀ h', HI h' → frm WGT h0 h' → LOW f h0 h' → Q (some (.int 0)) h')
    (q1 : ∀ h', HI h' → frm WGT h0 h' → LOW f h0 h' → (∀ c : Nat, (c : Int) < (h'.2.1 101 f).toInt → clOK h' (10 * f + c) ∧ (h'.2.1 105 (10 * f + c)).toInt ≤ ((100 * f + 100 : Nat) : Int)) → Q (some (.int 1)) h') :
    ∀ (m nn : Nat) (n : Int32) (sg : List Int) (h : Hp), HI h → frm WGT h0 h → LOW f h0 h → n.toInt = nn → nn + m = 9 → SGp f h sg → sg.length ≤ tA h → tA h ≤ tN h → (∀ c, c < nn → clOK h (10 * f + c) ∧ (h.2.1 105 (10 * f + c)).toInt ≤ ((100 * f + sg.length : Nat) : Int)) →
    Ends X (dp + 1 + 1 + 1 + 1 + 1 + 1) 132 15 [.ref 93, .int fv, .int n] [] h Q
  | m, nn, n, sg, h, hh, hf, hlo, hn, hm, hs, hl, hle, hcl => by
    have e1 : (10 * fv).toInt = ((10 * f : Nat) : Int) := by rw [i_mul (by rw [i10]; omega) (by rw [i10]; omega), i10, hfv]; omega
    have e2 : (10 * fv + n).toInt = ((10 * f + nn : Nat) : Int) := by rw [i_add (by omega) (by omega), e1, hn]; omega
    have n1 : (n + 1).toInt = ((nn + 1 : Nat) : Int) := by rw [i_add (by rw [i1]; omega) (by rw [i1]; omega), i1]; omega
    have hff : fv.toNatClampNeg = f := by show fv.toInt.toNat = _; omega
    have hle100 := (tN_v hh).2
    refine w_gt1 fv n hh.hs ?_
    generalize 10 * fv + n = cv at e2 ⊢
    generalize n + 1 = nv at n1 ⊢
    refine cl_s cv (10 * f + nn) e2 (by omega) hf5 sg hh hs hl hle (fun h1 a1 a2 a3 => ⟨0, rfl, a1.hs, fun x => absurd x (by decide), fun _ => q0 h1 a1 (frm_trans hf (sub_CL a2)) (LOW.tr hlo (LOW.cl a2 a3 (by omega) (by omega)))⟩) (fun h1 E a1 a2 a3 a4 a5 a6 a7 a8 a9 => ⟨1, rfl, a1.hs, fun _ => ⟨inB_iff (by omega) (by omega), ?_⟩, fun x => absurd x (by decide)⟩)
    rw [hff]
    have hh2 : HI (hpI h1 101 f nv) := HI_put a1 (by show (0 : Int) ≤ _; omega) (by show _ ≤ (10 : Int); omega)
    have f2 : frm WGT h0 (hpI h1 101 f nv) := frm_put (frm_trans hf (sub_CL a2)) (by simp [inW, WGT])
    have lo2 : LOW f h0 (hpI h1 101 f nv) := LOW.tr (LOW.tr hlo (LOW.cl a2 a3 (by omega) (by omega))) ⟨LW.put (by decide), fun g h1 _ => put_ne (by omega), fun c _ _ => ⟨put_ne (by omega), put_ne (by omega)⟩⟩
    have s2 : SGp f (hpI h1 101 f nv) (sg ++ E) := ⟨by rw [put_ne (by omega)]; exact a4.1, fun j hj => by rw [put_ne (by omega)]; exact a4.2 j hj⟩
    have eA : tA (hpI h1 101 f nv) = tA h1 := by unfold tA; rw [put_ne (by omega)]
    have eN : tN (hpI h1 101 f nv) = tN h := by rw [← tN_fr (h := h) (h' := h1) a2 rfl]; unfold tN; rw [put_ne (by omega)]
    have len2 : (sg ++ E).length = sg.length + E.length := List.length_append
    have cl2 : ∀ c, c < nn + 1 → clOK (hpI h1 101 f nv) (10 * f + c) ∧ ((hpI h1 101 f nv).2.1 105 (10 * f + c)).toInt ≤ ((100 * f + (sg ++ E).length : Nat) : Int) := by
      intro c hc
      have p4 : ∀ x, (hpI h1 101 f nv).2.1 104 x = h1.2.1 104 x := fun x => put_ne (by omega)
      have p5 : ∀ x, (hpI h1 101 f nv).2.1 105 x = h1.2.1 105 x := fun x => put_ne (by omega)
      have p6 : (hpI h1 101 f nv).2.1 106 = h1.2.1 106 := by funext x; exact put_ne (by omega)
      by_cases q : c = nn
      · subst q
        refine ⟨⟨100 * f + sg.length, E.length, by rw [p4]; exact a7, by rw [p5, a8, len2]; omega, by omega, by omega, ?_⟩, by rw [p5, a8]; exact Int.le_refl _⟩
        rw [p6]
        refine okS_of E (100 * f + sg.length) 0 (fun j hj => ?_) a9
        have := a4.2 (sg.length + j) (by omega)
        rw [show 100 * f + sg.length + j = 100 * f + (sg.length + j) by omega, this, List.getD_eq_getElem?_getD, List.getElem?_append_right (by omega), List.getD_eq_getElem?_getD, show sg.length + j - sg.length = j by omega]
      · obtain ⟨⟨a, mm, c1, c2, c3, c4, c5⟩, c6⟩ := hcl c (by omega)
        have g4 : h1.2.1 104 (10 * f + c) = h.2.1 104 (10 * f + c) := frI a2 (WCL_lo (by omega) (by omega) ⟨Or.inl rfl, by omega⟩)
        have g5 : h1.2.1 105 (10 * f + c) = h.2.1 105 (10 * f + c) := frI a2 (WCL_lo (by omega) (by omega) ⟨Or.inr rfl, by omega⟩)
        refine ⟨⟨a, mm, by rw [p4, g4]; exact c1, by rw [p5, g5]; exact c2, c3, c4, ?_⟩, by rw [p5, g5, len2]; omega⟩
        rw [p6, okS_congr (s := h.2.1 106) mm a 0 (fun j hj => ?_)]
        · exact c5
        · by_cases z : a + j < 100 * f
          · exact a3 _ z
          · have w1 := hs.2 (a + j - 100 * f) (by omega)
            have w2 := a4.2 (a + j - 100 * f) (by omega)
            rw [show 100 * f + (a + j - 100 * f) = a + j by omega] at w1 w2
            apply Int32.toInt.inj
            rw [w1, w2, List.getD_eq_getElem?_getD, List.getElem?_append_left (by omega), List.getD_eq_getElem?_getD]
    have v101 : (hpI h1 101 f nv).2.1 101 f = nv := put_at
    generalize hpI h1 101 f nv = h2 at *
    refine ⟨fun e => ⟨fun e2 => q0 h2 hh2 f2 lo2, fun e2 => ?_⟩, fun e => ?_⟩
    · have e2 : ¬ nv.toInt = (10 : Int32).toInt := of_decide_eq_false (cI e2)
      rw [i10] at e2
      have i59 : (59 : Int32).toInt = 59 := rfl
      have r2 := nx_rng hh2
      refine tk_ok 59 (by decide) hh2 (fun h3 b1 b2 b3 => ⟨_, rfl, b1.hs, fun e3 => ?_, fun e3 => ?_⟩)
      · have e3 := of_decide_eq_true (nb.mp (of_decide_eq_true (cI e3)))
        rw [if_pos e3] at b3
        have lt := r2.2.2 (by omega)
        have eN3 : tN h3 = tN h := (tN_fr b2 rfl).trans eN
        have lo3 : LOW f h2 h3 := ⟨LW.fr b2 (fun _ => rfl), fun g _ _ => frI b2 rfl, fun c _ _ => ⟨frI b2 rfl, frI b2 rfl⟩⟩
        match m, hm with
        | 0, hm => omega
        | m + 1, hm =>
          refine gt_loop fv hfv hf5 q0 q1 m (nn + 1) nv (sg ++ E) h3 b1 (frm_trans f2 (frm_sub (V := WA) (by decide) b2)) (LOW.tr lo2 lo3) n1 (by omega) (s2.fr b2 rfl (fun _ => rfl)) (by omega) (by omega) (fun c hc => ?_)
          obtain ⟨z1, z2⟩ := cl2 c hc
          exact ⟨cl_fr (frI b2 rfl) (frI b2 rfl) (by funext x; exact frI b2 rfl) z1, by rw [frI b2 rfl]; exact z2⟩
      · exact q0 h3 b1 (frm_trans f2 (frm_sub (V := WA) (by decide) b2)) (LOW.tr lo2 ⟨LW.fr b2 (fun _ => rfl), fun g _ _ => frI b2 rfl, fun c _ _ => ⟨frI b2 rfl, frI b2 rfl⟩⟩)
    · refine q1 h2 hh2 f2 lo2 (fun c hc => ?_)
      rw [v101, n1] at hc
      obtain ⟨z1, z2⟩ := cl2 c (by omega)
      exact ⟨z1, by omega⟩
theorem gt_s (fv : Int32) (hfv : fv.toInt = f) (hf5 : f ≤ 5) (hh : HI h0)
    (q0 : ∀ h', HI h' → frm WGT h0 h' → LOW f h0 h' → Q (some (.int 0)) h')
    (q1 : ∀ h', HI h' → frm WGT h0 h' → LOW f h0 h' → (∀ c : Nat, (c : Int) < (h'.2.1 101 f).toInt → clOK h' (10 * f + c) ∧ (h'.2.1 105 (10 * f + c)).toInt ≤ ((100 * f + 100 : Nat) : Int)) → Q (some (.int 1)) h') :
    Ends X (dp + 1 + 1 + 1 + 1 + 1 + 1) 132 0 [.ref 93, .int fv, .retAddr 0] [] h0 Q := by
  have i100 : (100 : Int32).toInt = 100 := rfl
  have e1 : (100 * fv).toInt = ((100 * f : Nat) : Int) := by rw [i_mul (by rw [i100]; omega) (by rw [i100]; omega), i100, hfv]; omega
  refine w_gt0 fv hh.hs ?_
  generalize 100 * fv = v at e1 ⊢
  refine gt_loop fv hfv hf5 q0 q1 9 0 0 [] _ (HI_put (HI_put hh (by show (0 : Int) ≤ 0; decide) (by show (0 : Int) ≤ 100; decide)) (by show (0 : Int) ≤ _; omega) (by show _ ≤ (600 : Int); omega)) (frm_put (frm_put frm_refl rfl) rfl) ⟨LW.tr (LW.put (by decide)) (LW.put (by decide)), fun g _ _ => by rw [put_ne (by omega), put_ne (by omega)], fun c _ _ => ⟨by rw [put_ne (by omega), put_ne (by omega)], by rw [put_ne (by omega), put_ne (by omega)]⟩⟩ rfl (by omega) ⟨by rw [put_at]; exact e1, fun j hj => by simp at hj⟩ (by simp) ?_ (fun c hc => by omega)
  have : tA (hpI (hpI h0 93 12 0) 93 22 v) = 0 := by
    unfold tA
    rw [put_ne (by omega), put_at]
    rfl
  omega
end GT
def WY : List (Nat × Nat) := [(93, 9), (93, 10), (93, 11), (93, 12), (93, 13), (93, 22), (93, 23), (93, 24), (101, 999), (102, 999), (103, 999), (104, 999), (105, 999), (106, 999), (107, 999)]
theorem yard_s {X : Scr} {dp : Nat} {h : Hp} {Q : Option Value → Hp → Prop} (hh : HI h) (ht : TX h)
    (hQ : ∀ (r : Int32) h', HI h' → frm WY h h' → TX h' → Q (some (.int r)) h') : Ends X (dp + 1 + 1 + 1 + 1 + 1 + 1 + 1) 133 0 [.ref 93, .retAddr 0] [] h Q := by
  have y6 := hh.iv 93 9 (r := (0, 6)) rfl
  simp only at y6
  have i6' : (6 : Int32).toInt = 6 := rfl
  refine w_yard hh.hs ⟨fun e => ?_, fun e => hQ _ h hh frm_refl ht⟩
  have e : ¬ (h.2.1 93 9).toInt = 6 := of_decide_eq_true (cI e)
  have hf5 : (h.2.1 93 9).toInt.toNat ≤ 5 := by omega
  have sub : ∀ {h'}, frm WGT h h' → frm WY h h' := fun q => frm_sub (V := WGT) (by decide) q
  have old : ∀ {h' : Hp}, LOW (h.2.1 93 9).toInt.toNat h h' → ∀ f c : Nat, f < (h.2.1 93 9).toInt.toNat → (c : Int) < (h'.2.1 101 f).toInt → clOK h' (10 * f + c) ∧ (h'.2.1 105 (10 * f + c)).toInt ≤ ((100 * f + 100 : Nat) : Int) := by
    intro h' hlo f c hf hc
    rw [hlo.2.1 f (by omega) (by omega)] at hc
    have c10 := hh.iv 101 f (r := (0, 10)) rfl
    simp only at c10
    obtain ⟨⟨a, m, c1, c2, c3, c4, c5⟩, c6⟩ := ht.2.2 f c (by omega) hc
    obtain ⟨g4, g5⟩ := hlo.2.2 (10 * f + c) (by omega) (by omega)
    refine ⟨⟨a, m, by rw [g4]; exact c1, by rw [g5]; exact c2, c3, c4, ?_⟩, by rw [g5]; exact c6⟩
    rw [okS_congr (s := h.2.1 106) m a 0 (fun j hj => hlo.1 _ (by omega))]
    exact c5
  refine gt_s (f := (h.2.1 93 9).toInt.toNat) (h.2.1 93 9) (by omega) hf5 hh (fun h1 a1 a2 a3 => ⟨0, rfl, a1.hs, fun x => absurd x (by decide), fun _ => ?_⟩) (fun h1 a1 a2 a3 a4 => ⟨1, rfl, a1.hs, fun _ => ?_, fun x => absurd x (by decide)⟩)
  · refine hQ _ _ (HI_put a1 (by show (0 : Int) ≤ 0; decide) (by show (0 : Int) ≤ 100; decide)) (frm_put (sub a2) rfl) ⟨?_, ?_, fun f c hf hc => ?_⟩
    · rw [put_ne (by omega), put_ne (by omega), frI a2 rfl, frI a2 rfl]; exact ht.1
    · rw [put_ne (by omega), put_ne (by omega), frI a2 rfl, frI a2 rfl]; exact ht.2.1
    · rw [put_ne (by omega), frI a2 rfl] at hf
      rw [put_ne (by omega)] at hc
      obtain ⟨z1, z2⟩ := old a3 f c (by omega) hc
      exact ⟨cl_fr (put_ne (by omega)) (put_ne (by omega)) (by funext x; exact put_ne (by omega)) z1, by rw [put_ne (by omega)]; exact z2⟩
  · have v9 : (hpI h1 93 11 0).2.1 93 9 = h.2.1 93 9 := by rw [put_ne (by omega), frI a2 rfl]
    rw [v9]
    have v9b : (hpI (hpI h1 93 11 0) 93 10 (h.2.1 93 9)).2.1 93 9 = h.2.1 93 9 := by rw [put_ne (by omega), v9]
    rw [v9b]
    have g : (h.2.1 93 9 + 1).toInt = (h.2.1 93 9).toInt + 1 := by rw [i_add (by rw [i1]; omega) (by rw [i1]; omega), i1]
    generalize h.2.1 93 9 + 1 = y at g ⊢
    have pn : ∀ a k, ¬ a = 93 → (hpI (hpI (hpI h1 93 11 0) 93 10 (h.2.1 93 9)) 93 9 y).2.1 a k = h1.2.1 a k := fun a k hn => by rw [put_ne (by omega), put_ne (by omega), put_ne (by omega)]
    refine hQ _ _ (HI_put (HI_put (HI_put a1 (by show (0 : Int) ≤ 0; decide) (by show (0 : Int) ≤ 100; decide)) (by show (-1 : Int) ≤ _; omega) (by show _ ≤ (5 : Int); omega)) (by show (0 : Int) ≤ _; omega) (by show _ ≤ (6 : Int); omega)) (frm_put (frm_put (frm_put (sub a2) rfl) rfl) rfl) ⟨?_, ?_, fun f c hf hc => ?_⟩
    · rw [put_ne (by omega), put_at, put_at]
      omega
    · rw [put_ne (by omega), put_ne (by omega), put_ne (by omega), put_at, frI a2 rfl]
      have := ht.2.1
      omega
    · rw [put_at] at hf
      rw [pn 101 f (by decide)] at hc
      have z : clOK h1 (10 * f + c) ∧ (h1.2.1 105 (10 * f + c)).toInt ≤ ((100 * f + 100 : Nat) : Int) := by
        by_cases q : f = (h.2.1 93 9).toInt.toNat
        · subst q
          exact a4 c hc
        · exact old a3 f c (by omega) hc
      exact ⟨cl_fr (pn _ _ (by decide)) (pn _ _ (by decide)) (by funext x; exact pn _ _ (by decide)) z.1, by rw [pn _ _ (by decide)]; exact z.2⟩
