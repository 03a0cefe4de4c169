section JN99tw7cpairs
/-! feed, yard, count: the pairs of calls. -/
section CPAIRS
variable {X : Scr} {dp : Nat} {h h0 : Hp} {Q : Option Value → Hp → Prop}
def asgn (a : Int32) : Prop := 0 ≤ a.toInt ∧ a.toInt ≤ 127
theorem cfeed_ok (a : Int32) (hh : HI h) (q1 : ¬ asgn a → Q (some (.int (-2))) h) (q2 : asgn a → (h.2.1 44 1).toInt = 100 → Q (some (.int (-4))) h) (q3 : asgn a → ¬ (h.2.1 44 1).toInt = 100 → Q (some (.int (h.2.1 44 1 + 1))) (hpI (hpI h 45 (h.2.1 44 1).toInt.toNat a) 44 1 (h.2.1 44 1 + 1))) : Ends X (dp + 1) 68 0 [.ref 0, .int a] [] h Q := by
  have b := hh.iv 44 1 (r := (0, 100)) rfl
  have j100 : (100 : Int32).toInt = 100 := rfl
  have j127 : (127 : Int32).toInt = 127 := rfl
  simp only at b
  refine w_feed a hh.hs ⟨fun e => q1 ?_, fun e => ⟨fun e2 => ?_, fun e2 => q1 ?_⟩⟩
  · have e : a.toInt < 0 := of_decide_eq_true (cI e)
    exact fun d => by have := d.1; omega
  · have e : ¬ a.toInt < 0 := of_decide_eq_false (cI e)
    have e2 : a.toInt ≤ 127 := of_decide_eq_true (cI e2)
    have sg : asgn a := ⟨by omega, e2⟩
    refine w_tki a hh.hs ⟨fun e3 => ?_, fun e3 => ⟨fun e4 => ?_, fun e4 => ?_⟩⟩
    · exfalso
      have e3 : (h.2.1 44 1).toInt < 0 := of_decide_eq_true (cI e3)
      omega
    · have e4 : (h.2.1 44 1).toInt < 100 := of_decide_eq_true (cI e4)
      have g : (h.2.1 44 1 + 1).toInt = (h.2.1 44 1).toInt + 1 := by rw [i_add (by rw [i1]; omega) (by rw [i1]; omega), i1]
      have q := q3 sg (by omega)
      rw [show (h.2.1 44 1).toNatClampNeg = (h.2.1 44 1).toInt.toNat from rfl]
      refine ⟨inB_iff (by omega) (by omega), _, rfl, ?_, fun e5 => absurd e5 (by decide), fun _ => ?_⟩
      · exact hh.hs
      · rw [put_at]
        exact q
    · have e4 : ¬ (h.2.1 44 1).toInt < 100 := of_decide_eq_false (cI e4)
      exact ⟨_, rfl, hh.hs, fun _ => q2 sg (by omega), fun e5 => absurd e5 (by decide)⟩
  · have e2 : ¬ a.toInt ≤ 127 := of_decide_eq_false (cI e2)
    exact fun d => e2 d.2
theorem mfeed_ok (a : Int32) (hh : HI h) (q1 : ¬ asgn a → Q (some (.int (-2))) h) (q2 : asgn a → (h.2.1 93 11).toInt = 100 → Q (some (.int (-4))) h) (q3 : asgn a → ¬ (h.2.1 93 11).toInt = 100 → Q (some (.int (h.2.1 93 11 + 1))) (hpI (hpI h 100 (h.2.1 93 11).toInt.toNat a) 93 11 (h.2.1 93 11 + 1))) : Ends X (dp + 1) 118 0 [.ref 93, .int a] [] h Q := by
  have b := hh.iv 93 11 (r := (0, 100)) rfl
  have j0 : (0 : Int32).toInt = 0 := rfl
  have j127 : (127 : Int32).toInt = 127 := rfl
  simp only at b
  refine w_mfeed a hh.hs (in_ok _ _ _ hh.hs ⟨_, rfl, hh.hs, fun e => ?_, fun e => q1 ?_⟩)
  · have e := band (cn2 e)
    rw [j0, j127] at e
    refine ⟨fun e2 => ?_, fun e2 => ?_⟩
    · have e2 : ¬ (h.2.1 93 11).toInt = 100 := of_decide_eq_true (cI e2)
      exact ⟨inB_iff (by omega) (by omega), q3 e e2⟩
    · have e2 : ¬ ¬ (h.2.1 93 11).toInt = 100 := of_decide_eq_false (cI e2)
      exact q2 e (Decidable.not_not.mp e2)
  · have e := bnand (cz2 e)
    rw [j0, j127] at e
    exact e
def WFE : List (Nat × Nat) := [(45, 999), (44, 1), (100, 999), (93, 11)]
theorem WFE_45 {k : Nat} : inW WFE 45 k = true := by simp [inW, WFE]
theorem WFE_100 {k : Nat} : inW WFE 100 k = true := by simp [inW, WFE]
theorem feed_pair (a : Int32) (hi : INVC h) {K : Hp → Int32 → Int32 → Prop} (hK : ∀ r h', INVC h' → frm WFE h h' → K h' r r) (hQ : ∀ r h1, HI h1 → REF X (dp + 1) 118 [.ref 93, .int a] K r h1 → Q (some (.int r)) h1) : Ends X (dp + 1) 68 0 [.ref 0, .int a] [] h Q := by
  have hh := hi.1.1.1
  obtain ⟨e1, e2, e3, e4, e5, e6, e7⟩ := id hi.2
  have b := hh.iv 44 1 (r := (0, 100)) rfl
  simp only at b
  refine cfeed_ok a hh (fun c => ?_) (fun c c2 => ?_) (fun c c2 => ?_)
  · exact hQ _ h hh (mfeed_ok a hh (fun _ => ⟨_, rfl, hh.hs, hK _ h hi frm_refl⟩) (fun d => absurd d c) (fun d => absurd d c))
  · rw [e1] at c2
    exact hQ _ h hh (mfeed_ok a hh (fun d => absurd c d) (fun _ _ => ⟨_, rfl, hh.hs, hK _ h hi frm_refl⟩) (fun _ d => absurd c2 d))
  · have g : (h.2.1 44 1 + 1).toInt = (h.2.1 44 1).toInt + 1 := by rw [i_add (by rw [i1]; omega) (by rw [i1]; omega), i1]
    obtain ⟨n, hn⟩ : ∃ n, (h.2.1 44 1).toInt.toNat = n := ⟨_, rfl⟩
    obtain ⟨u, hu⟩ : ∃ u, h.2.1 44 1 + 1 = u := ⟨_, rfl⟩
    rw [hn]
    rw [hu] at g ⊢
    have g1 : HI (hpI (hpI h 45 n a) 44 1 u) := HI_put (HI_put hh c.1 c.2) (by show (0 : Int) ≤ _; omega) (by show _ ≤ (100 : Int); omega)
    have g2 : HI (hpI (hpI (hpI (hpI h 45 n a) 44 1 u) 100 n a) 93 11 u) := HI_put (HI_put g1 c.1 c.2) (by show (0 : Int) ≤ _; omega) (by show _ ≤ (100 : Int); omega)
    have f2 : frm WFE h (hpI (hpI (hpI (hpI h 45 n a) 44 1 u) 100 n a) 93 11 u) := frm_put (frm_put (frm_put (frm_put frm_refl WFE_45) rfl) WFE_100) rfl
    have v11 : (hpI (hpI h 45 n a) 44 1 u).2.1 93 11 = h.2.1 44 1 := by rw [put_ne (by omega), put_ne (by omega)]; exact e1.symm
    refine hQ _ _ g1 (mfeed_ok a g1 (fun d => absurd c d) (fun _ d => absurd (by rw [v11] at d; exact d) c2) (fun _ _ => ⟨_, rfl, g1.hs, ?_⟩))
    rw [v11, hn, hu]
    refine hK _ _ ⟨⟨INV_fr (W := WFE) (by decide) g2 f2 hi.1.1, EQV_f (W := WFE) (by decide) f2 hi.1.2⟩, ?_, fun j => ?_, ?_, fun i hi' => ?_, ?_, ?_, ?_⟩ f2
    · rw [put_ne (by omega), put_ne (by omega), put_at, put_at]
    · rw [put_ne (by omega), put_ne (by omega), put_ne (by omega), put_if, put_ne (by omega), put_if, put_ne (by omega), put_ne (by omega)]
      by_cases c9 : j = n
      · rw [if_pos c9, if_pos c9]
      · rw [if_neg c9, if_neg c9]
        exact e2 j
    · rw [frI f2 rfl, frI f2 rfl]; exact e3
    · have y6 := hh.iv 93 9 (r := (0, 6)) rfl
      simp only at y6
      rw [frI f2 (a := 93) (k := 9) rfl] at hi'
      exact YE_fr (by omega) (fun a k hs => (f2 a k (dis_in (SUP := SYA) (by decide) hs)).1) (e4 i hi')
    · rw [frI f2 rfl, frI f2 rfl]; exact e5
    · rw [frI f2 rfl, frI f2 rfl]; exact e6
    · exact e7.fr f2 (fun k => by simp [inW, WFE])
theorem count_pair (a : Int32) (hi : INVC h) {K : Hp → Int32 → Int32 → Prop} (hK : ∀ r h', INVC h' → frm [] h h' → K h' r r) (hQ : ∀ r h1, HI h1 → REF X dp 197 [.ref 93, .int a] K r h1 → Q (some (.int r)) h1) : Ends X dp 94 0 [.ref 0, .int a] [] h Q := by
  have hh := hi.1.1.1
  have k := fun r => hK r h hi frm_refl
  have r0 : h.2.1 1 0 = h.2.1 93 0 := hi.1.1.2.2.2.2.2.2.1
  have r1 : h.2.1 0 6 = h.2.1 93 9 := hi.2.2.2.1
  have r2 : h.2.1 1 11 = h.2.1 93 42 := hi.1.2.2.2.1.2.2.1
  have r3 : h.2.1 44 1 = h.2.1 93 11 := hi.2.1
  have r4 : h.2.1 51 4 = h.2.1 93 58 := hi.1.2.2.2.2.2.1.2
  have fin : ∀ r : Int32, ((a.toInt < 0 ∨ 4 < a.toInt) → r = -2) → (a.toInt = 0 → r = h.2.1 93 0) → (a.toInt = 1 → r = h.2.1 93 9) → (a.toInt = 2 → r = h.2.1 93 42) → (a.toInt = 3 → r = h.2.1 93 11) → (a.toInt = 4 → r = h.2.1 93 58) → Q (some (.int r)) h := by
    intro r c c0 c1 c2 c3 c4
    refine hQ r h hh (w_mcnt a hh.hs ⟨fun e => ⟨_, rfl, hh.hs, ?_⟩, fun e => ⟨_, rfl, hh.hs, ?_⟩, fun e => ⟨_, rfl, hh.hs, ?_⟩, fun e => ⟨_, rfl, hh.hs, ?_⟩, fun e => ⟨_, rfl, hh.hs, ?_⟩, fun e => ⟨_, rfl, hh.hs, ?_⟩⟩)
    · rw [← c e]; exact k r
    · rw [← c0 e]; exact k r
    · rw [← c1 e]; exact k r
    · rw [← c2 e]; exact k r
    · rw [← c3 e]; exact k r
    · rw [← c4 e]; exact k r
  refine w_ccnt a hh.hs ⟨fun e => ?_, fun e => ?_, fun e => ?_, fun e => ?_, fun e => ?_, fun e => ?_⟩
  · exact fin _ (fun _ => rfl) (fun d => by omega) (fun d => by omega) (fun d => by omega) (fun d => by omega) (fun d => by omega)
  · exact fin _ (fun d => by omega) (fun _ => r0) (fun d => by omega) (fun d => by omega) (fun d => by omega) (fun d => by omega)
  · exact fin _ (fun d => by omega) (fun d => by omega) (fun _ => r1) (fun d => by omega) (fun d => by omega) (fun d => by omega)
  · exact fin _ (fun d => by omega) (fun d => by omega) (fun d => by omega) (fun _ => r2) (fun d => by omega) (fun d => by omega)
  · exact fin _ (fun d => by omega) (fun d => by omega) (fun d => by omega) (fun d => by omega) (fun _ => r3) (fun d => by omega)
  · exact fin _ (fun d => by omega) (fun d => by omega) (fun d => by omega) (fun d => by omega) (fun d => by omega) (fun _ => r4)
/-! yard -/
/-- all that the class writes as it reads a yard -/
def WYC : List (Nat × Nat) := [(44, 1), (44, 2), (44, 3), (1, 12), (0, 6), (63, 0), (63, 5), (64, 999), (65, 999), (66, 999), (67, 999), (68, 0), (68, 5), (69, 999), (70, 999), (71, 999), (72, 999), (73, 0), (73, 5), (74, 999), (75, 999), (76, 999), (77, 999), (78, 0), (78, 5), (79, 999), (80, 999), (81, 999), (82, 999), (83, 0), (83, 5), (84, 999), (85, 999), (86, 999), (87, 999), (88, 0), (88, 5), (89, 999), (90, 999), (91, 999), (92, 999)]
theorem WYC_sub {i : Nat} (hi : i < 6) : subW (CWC (63 + 5 * i) ++ [(44, 3)]) WYC = true := by
  have h : ∀ i, i < 6 → subW (CWC (63 + 5 * i) ++ [(44, 3)]) WYC = true := by decide
  exact h i hi
def WYA : List (Nat × Nat) := WYC ++ WY
theorem yard_inv {h h1 h' : Hp} (hi : INV h) (f1 : frm WYC h h1) (hh : HI h') (f2 : frm WY h1 h') (ht : TX h') : INV h' := by
  have f : frm WYA h h' := frm_trans (frm_mono (by decide) f1) (frm_mono (by decide) f2)
  obtain ⟨-, j1, g, s, q, ⟨x1, x2⟩, r1, r2, r3⟩ := hi
  have e : ∀ a k, inW WYA a k = false → h'.2.1 a k = h.2.1 a k := fun a k hs => (f a k hs).1
  have er : ∀ a k, inW WYA a k = false → h'.2.2.2 a k = h.2.2.2 a k := fun a k hs => (f a k hs).2.2
  refine ⟨hh, ⟨ht, by rw [e 93 30 rfl]; exact j1.2⟩, by rw [e 93 32 rfl]; exact g, by rw [e 93 1 rfl]; exact s, by rw [e 93 47 rfl]; exact q, ⟨fun i hi => ?_, fun i hi => ?_⟩, ?_, ?_, ?_⟩
  · rw [er 56 i (by simp [inW, WYA, WYC, WY])]; exact x1 i hi
  · rw [er 38 i (by simp [inW, WYA, WYC, WY])]; exact x2 i hi
  · rw [e 1 0 rfl, e 93 0 rfl]; exact r1
  · rw [e 9 0 rfl, e 93 46 rfl]; exact r2
  · rw [e 0 2 rfl, e 93 44 rfl]; exact r3
/-- an old yard behind the reading of another -/
theorem YE_old {i f : Nat} {h h1 h' : Hp} (hif : i < f) (hf : f < 6) (f1 : ∀ a k, inW (CWC (63 + 5 * f)) a k = false → 63 ≤ a → a < 93 → h1.2.1 a k = h.2.1 a k) (f1m : ∀ a k, 93 ≤ a → h1.2.1 a k = h.2.1 a k) (f2 : frm WY h1 h') (lo : LOX f h1 h') (hy : YE i h) : YE i h' := by
  obtain ⟨cs, m, ⟨r1, r2, r3⟩, ⟨y1, y2, y3⟩, w⟩ := hy
  have cc : ∀ a k, 63 + 5 * i ≤ a → a ≤ 63 + 5 * i + 4 → h'.2.1 a k = h.2.1 a k := by
    intro a k h1' h2'
    have n : inW WY a k = false := by
      simp [inW, WY]
      omega
    rw [frI f2 n]
    exact f1 a k (CWC_n (by omega) (by omega)) (by omega) (by omega)
  refine ⟨cs, m, ⟨by rw [cc _ _ (by omega) (by omega)]; exact r1, fun c hc => ?_, fun j hj => by rw [cc _ _ (by omega) (by omega)]; exact r3 j hj⟩, ⟨by rw [lo.2.1 i (by omega), f1m _ _ (by omega)]; exact y1, fun c hc => ?_, fun j hj => by rw [lo.1 _ (by have := w.2.2; omega), f1m _ _ (by omega)]; exact y3 j hj⟩, w⟩
  · rw [cc _ _ (by omega) (by omega), cc _ _ (by omega) (by omega), cc _ _ (by omega) (by omega)]
    exact r2 c hc
  · have l := lo.2.2 (10 * i + c) (by have := w.2.1; omega) (by have := w.2.1; omega)
    rw [l.1, l.2.1, l.2.2.1, l.2.2.2, f1m _ _ (by omega), f1m _ _ (by omega), f1m _ _ (by omega), f1m _ _ (by omega)]
    exact y2 c hc
theorem yard_pair (hd : 30 ≤ dp) (hi : INVC h) {K : Hp → Int32 → Int32 → Prop} (hK : ∀ r h', INVC h' → frm WYA h h' → K h' r r) (hQ : ∀ r h1, HI h1 → REF X (dp + 1) 133 [.ref 93, .retAddr 0] K r h1 → Q (some (.int r)) h1) : Ends X (dp + 1) 69 0 [.ref 0, .retAddr 0] [] h Q := by
  have hh := hi.1.1.1
  obtain ⟨e1, e2, e3, e4, e5, e6, e7⟩ := id hi.2
  have b := hh.iv 0 6 (r := (0, 6)) rfl
  have j6 : (6 : Int32).toInt = 6 := rfl
  simp only at b
  have ht : TX h := hi.1.1.2.1.1
  have j10 : (-10 : Int32).toInt = -10 := rfl
  refine w_cyd hh.hs ⟨fun e => ?_, fun e => ?_⟩
  · have e : (h.2.1 0 6).toInt < 6 := of_decide_eq_true (cI e)
    obtain ⟨f, hf⟩ : ∃ f, (h.2.1 0 6).toInt.toNat = f := ⟨_, rfl⟩
    have hf6 : f < 6 := by omega
    have hY := yq_i hf6
    have yr := yq_rng hY
    have hfm : (h.2.1 93 9).toInt.toNat = f := by rw [← e3]; exact hf
    have eTT : xT h = tT h := by
      funext j
      unfold xT tT
      rw [e2 j]
    have eNN : xN h = tN h := by unfold xN tN; rw [e1]
    refine ⟨63 + 5 * f, inB_iff (by omega) (by omega), ?_, by omega, Ends.dpl (by omega) (cI_ok hY hh (fun v h1 g1 f1 gvb gc => ⟨v, rfl, g1.hs, ?_⟩))⟩
    · show h.2.2.2 38 (h.2.1 0 6).toInt.toNat = _
      rw [hf]
      exact hi.1.1.2.2.2.2.2.1.2 f hf6
    obtain ⟨gv, gb⟩ := gvb
    have f1' : frm WYC h h1 := frm_sub (WYC_sub hf6) f1
    have v06 : h1.2.1 0 6 = h.2.1 0 6 := by
      refine frI f1 ?_
      simp only [inW, List.any_append, Bool.or_eq_false_iff]
      exact ⟨CWC_n (by omega) (by omega), rfl⟩
    have fm : ∀ a k, 93 ≤ a → h1.2.1 a k = h.2.1 a k := fun a k ha => by
      refine frI f1 ?_
      simp only [inW, List.any_append, Bool.or_eq_false_iff]
      refine ⟨CWC_n (by omega) (by omega), ?_⟩
      have : (44 == a) = false := by simpa using (by omega : ¬ 44 = a)
      simp [this]
    have fc : ∀ a k, inW (CWC (63 + 5 * f)) a k = false → 63 ≤ a → a < 93 → h1.2.1 a k = h.2.1 a k := fun a k hn h1' h2' => by
      refine frI f1 ?_
      simp only [inW, List.any_append, Bool.or_eq_false_iff]
      refine ⟨hn, ?_⟩
      have : (44 == a) = false := by simpa using (by omega : ¬ 44 = a)
      simp [this]
    rw [v06]
    have bn := (xN_v hh).2
    generalize hr : gtP (xT h) (xN h) 10 0 [] [] = r at gv gc
    have hr' : gtP (tT h) (tN h) 10 0 [] [] = r := by rw [← eTT, ← eNN]; exact hr
    have wf : r.1 = true → WFC r.2.2.1 r.2.2.2 ∧ r.2.2.2.length ≤ 100 := by
      intro q
      have := gtP_wf (xT h) (xN h) 10 0 [] [] (Nat.zero_le _) (Nat.le_refl _) WFC_0 (by rw [hr]; exact q)
      rw [hr] at this
      exact ⟨this.1, by omega⟩
    -- behind the class's own writes
    have tail : ∀ (h2 : Hp) (ans : Int32), HI h2 → frm WYC h1 h2 → (∀ a k, 45 ≤ a → h2.2.1 a k = h1.2.1 a k) → h2.2.1 44 1 = 0 → (r.1 = true → ans = h.2.1 0 6 ∧ h2.2.1 1 12 = h.2.1 0 6 ∧ h2.2.1 0 6 = h.2.1 0 6 + 1) → (r.1 = false → ans.toInt = -10 - (r.2.1 : Int) ∧ h2.2.1 1 12 = h.2.1 1 12 ∧ h2.2.1 0 6 = h.2.1 0 6) → h2.2.1 9 12 = h.2.1 9 12 → Q (some (.int ans)) h2 := by
      intro h2 ans g2 f2 hi45 t1 t2 t3 t4
      have fr2 : frm WYC h h2 := frm_trans f1' f2
      have fm2 : ∀ a k, 93 ≤ a → h2.2.1 a k = h.2.1 a k := fun a k ha => (hi45 a k (by omega)).trans (fm a k ha)
      have fc2 : ∀ a k, inW (CWC (63 + 5 * f)) a k = false → 63 ≤ a → a < 93 → h2.2.1 a k = h.2.1 a k := fun a k hn h1' h2' => (hi45 a k (by omega)).trans (fc a k hn h1' h2')
      have eT2 : tT h2 = tT h := by funext j; unfold tT; rw [fm2 _ _ (by omega)]
      have eN2 : tN h2 = tN h := by unfold tN; rw [fm2 _ _ (by omega)]
      have L2 : LTR h2 := fun j hj => by rw [fm2 _ _ (by omega)]; exact e7 j hj
      have v9 : h2.2.1 93 9 = h.2.1 93 9 := fm2 _ _ (by omega)
      have v10 : h2.2.1 93 10 = h.2.1 93 10 := fm2 _ _ (by omega)
      have v45 : h2.2.1 93 45 = h.2.1 93 45 := fm2 _ _ (by omega)
      have ht2 : TX h2 := TX_fr (fun a k hs => fm2 a k (by
        apply Decidable.byContradiction
        intro c
        simp only [inW, SUP1, List.any_cons, List.any_nil, Bool.or_false, Bool.or_eq_true, Bool.and_eq_true, beq_iff_eq] at hs
        omega)) ht
      have txt : ∀ {h' : Hp}, frm WY h2 h' → ∀ j, h'.2.1 45 j = h'.2.1 100 j := fun {h'} ff j => by
        have n45 : inW WYC 45 j = false := by simp [inW, WYC]
        rw [frI ff (a := 45) (by simp [inW, WY]), frI fr2 n45, frI ff (a := 100) (by simp [inW, WY]), fm2 _ _ (by omega)]
        exact e2 j
      have ye : ∀ {h' : Hp}, frm WY h2 h' → LOX f h2 h' → ∀ i, i < f → YE i h' := fun {h'} ff lo i hif => YE_old hif hf6 fc2 fm2 ff lo (e4 i (by omega))
      refine hQ ans h2 g2 ?_
      have ys := yard_s (X := X) (dp := 0) (Q := fun v h' => HI h' ∧ TX h') g2 ht2 (fun _ h' a _ c => ⟨a, c⟩)
      have yx := yard_x (X := X) (dp := 0) (Q := fun v h' => frm WY h2 h' ∧ ((r.1 = true ∧ v = some (.int (h.2.1 93 9)) ∧ LOX f h2 h' ∧ h'.2.1 93 9 = h.2.1 93 9 + 1 ∧ h'.2.1 93 10 = h.2.1 93 9 ∧ h'.2.1 93 11 = 0 ∧ YM f h' r.2.2.1 r.2.2.2) ∨ (r.1 = false ∧ (∃ z : Int32, v = some (.int z) ∧ z.toInt = -10 - (r.2.1 : Int)) ∧ LOX f h2 h' ∧ h'.2.1 93 9 = h.2.1 93 9 ∧ h'.2.1 93 10 = h.2.1 93 10 ∧ h'.2.1 93 11 = 0))) g2 L2
      rw [v9, v10, eT2, eN2, hr', hfm] at yx
      have n6 : ¬ (h.2.1 93 9).toInt = 6 := by rw [← e3]; omega
      have yx := yx (fun c => absurd c n6) (fun _ c z h' p1 p2 p3 p4 p5 p6 p7 => ⟨p2, Or.inr ⟨c, ⟨z, rfl, p4⟩, p3, p5, p6, p7⟩⟩) (fun _ c h' p1 p2 p3 p4 p5 p6 p7 => ⟨p2, Or.inl ⟨c, rfl, p3, p4, p5, p6, p7⟩⟩)
      refine (Ends.dpl (by omega) (ys.and yx)).mono ?_
      rintro w h3 ⟨⟨g3, tx3⟩, ff, ⟨c, rfl, lo, p9, p10, p11, ym⟩ | ⟨c, ⟨z, rfl, hz⟩, lo, p9, p10, p11⟩⟩
      · obtain ⟨u1, u2, u3⟩ := t2 c
        refine ⟨_, rfl, g3.hs, ?_⟩
        rw [u1, ← e3]
        have fA : frm WYA h h3 := frm_trans (frm_mono (by decide) fr2) (frm_mono (by decide) ff)
        refine hK _ h3 ⟨⟨yard_inv hi.1.1 fr2 g3 ff tx3, EQV_f (W := WYA) (by decide) fA hi.1.2⟩, ?_, txt ff, ?_, fun i hi' => ?_, ?_, ?_, ?_⟩ fA
        · rw [frI ff rfl, t1, p11]
        · rw [frI ff rfl, u3, p9, e3]
        · have gz : (h.2.1 93 9 + 1).toInt = (h.2.1 93 9).toInt + 1 := by rw [i_add (by rw [i1, ← e3]; omega) (by rw [i1, ← e3]; omega), i1]
          rw [p9, gz] at hi'
          by_cases d : i = f
          · subst d
            have hc := gc c
            have w := wf c
            refine ⟨r.2.2.1, r.2.2.2, ⟨?_, fun c' hc' => ?_, fun j hj => ?_⟩, ym, w.1, ?_, w.2⟩
            · rw [frI ff (by simp [inW, WY]; omega), hi45 _ _ (by omega)]; exact hc.2.1
            · rw [frI ff (a := 63 + 5 * i + 1) (by simp [inW, WY]; omega), frI ff (a := 63 + 5 * i + 2) (by simp [inW, WY]; omega), frI ff (a := 63 + 5 * i + 3) (by simp [inW, WY]; omega), hi45 _ _ (by omega), hi45 _ _ (by omega), hi45 _ _ (by omega)]
              exact hc.2.2 c' hc'
            · rw [frI ff (by simp [inW, WY]; omega), hi45 _ _ (by omega)]
              exact hc.1.2.2 j hj
            · have := g3.iv 101 i (r := (0, 10)) rfl
              simp only at this
              rw [ym.1] at this
              omega
          · exact ye ff lo i (by omega)
        · rw [frI ff rfl, u2, p10, e3]
        · rw [frI ff rfl, t4, frI ff rfl, v45]; exact e6
        · exact L2.fr ff (fun k => by simp [inW, WY])
      · obtain ⟨u1, u2, u3⟩ := t3 c
        have ez : ans = z := Int32.toInt_inj.mp (by rw [u1, hz])
        subst ez
        refine ⟨_, rfl, g3.hs, ?_⟩
        have fA : frm WYA h h3 := frm_trans (frm_mono (by decide) fr2) (frm_mono (by decide) ff)
        refine hK _ h3 ⟨⟨yard_inv hi.1.1 fr2 g3 ff tx3, EQV_f (W := WYA) (by decide) fA hi.1.2⟩, ?_, txt ff, ?_, fun i hi' => ?_, ?_, ?_, ?_⟩ fA
        · rw [frI ff rfl, t1, p11]
        · rw [frI ff rfl, u3, p9, e3]
        · rw [p9] at hi'
          exact ye ff lo i (by omega)
        · rw [frI ff rfl, u2, p10, e5]
        · rw [frI ff rfl, t4, frI ff rfl, v45]; exact e6
        · exact L2.fr ff (fun k => by simp [inW, WY])
    have v112 : h1.2.1 1 12 = h.2.1 1 12 := by
      refine frI f1 ?_
      simp only [inW, List.any_append, Bool.or_eq_false_iff]
      exact ⟨CWC_n (by omega) (by omega), rfl⟩
    have v912 : h1.2.1 9 12 = h.2.1 9 12 := by
      refine frI f1 ?_
      simp only [inW, List.any_append, Bool.or_eq_false_iff]
      exact ⟨CWC_n (by omega) (by omega), rfl⟩
    have g0 : HI (hpI h1 44 1 0) := HI_put g1 (by show (0 : Int) ≤ 0; decide) (by show (0 : Int) ≤ 100; decide)
    refine ⟨fun c => ?_, fun c => ?_⟩
    · have c : v.toInt < 0 := of_decide_eq_true (cI c)
      have ok : r.1 = true := by
        cases hq : r.1 with
        | true => rfl
        | false =>
          rw [hq, if_neg (by decide)] at gv
          omega
      have g : (h.2.1 0 6 + 1).toInt = (h.2.1 0 6).toInt + 1 := by rw [i_add (by rw [i1]; omega) (by rw [i1]; omega), i1]
      generalize hu : h.2.1 0 6 + 1 = u at g tail ⊢
      refine tail _ _ (HI_put (HI_put g0 (by show (-1 : Int) ≤ _; omega) (by show _ ≤ (5 : Int); omega)) (by show (0 : Int) ≤ _; omega) (by show _ ≤ (6 : Int); omega)) (frm_put (frm_put (frm_put frm_refl rfl) rfl) rfl) (fun a k ha => by rw [put_ne (by omega), put_ne (by omega), put_ne (by omega)]) ?_ (fun _ => ⟨rfl, ?_, put_at⟩) (fun z => by rw [ok] at z; cases z) ?_
      · rw [put_ne (by omega), put_ne (by omega), put_at]
      · rw [put_ne (by omega), put_at]
      · rw [put_ne (by omega), put_ne (by omega), put_ne (by omega)]; exact v912
    · have c : ¬ v.toInt < 0 := of_decide_eq_false (cI c)
      have no : r.1 = false := by
        cases hq : r.1 with
        | false => rfl
        | true =>
          rw [hq, if_pos rfl] at gv
          omega
      rw [no, if_neg (by decide)] at gv
      have bv := i32r v
      simp only [fI] at bv
      refine tail _ _ g0 (frm_put frm_refl rfl) (fun a k ha => put_ne (by omega)) put_at (fun z => by rw [no] at z; cases z) (fun _ => ⟨?_, ?_, ?_⟩) ?_
      · rw [i_sub (by rw [j10]; omega) (by rw [j10]; omega), j10, gv]
      · rw [put_ne (by omega)]; exact v112
      · rw [put_ne (by omega)]; exact v06
      · rw [put_ne (by omega)]; exact v912
  · have e : ¬ (h.2.1 0 6).toInt < 6 := of_decide_eq_false (cI e)
    have n6 : (h.2.1 93 9).toInt = 6 := by rw [← e3]; omega
    exact hQ _ h hh (Ends.dpl (by omega) (yard_x (dp := 0) hh e7 (fun _ => ⟨_, rfl, hh.hs, hK _ h hi frm_refl⟩) (fun c => absurd n6 c) (fun c => absurd n6 c)))
end CPAIRS
end JN99tw7cpairs
section JN99tw8plainc
/-! Texts and yards: the calls that leave them alone. -/
def SUPC2 : List (Nat × Nat) := SYA ++ [(44, 1), (93, 11), (45, 999), (100, 999), (0, 6), (93, 9), (108, 999)]
theorem EQC_g {W : List (Nat × Nat)} {h h' : Hp} (hh : HI h) (hd : disW SUPC2 W = true) (hf : frm W h h') (e : EQC h) (n5 : h'.2.1 1 12 = h'.2.1 93 10) (n6 : h'.2.1 9 12 = h'.2.1 93 45) : EQC h' := by
  have g : ∀ a k, inW SUPC2 a k = true → h'.2.1 a k = h.2.1 a k := fun a k hs => (hf a k (dis_in hd hs)).1
  have gy : ∀ a k, inW SYA a k = true → h'.2.1 a k = h.2.1 a k := fun a k hs => g a k (by unfold SUPC2; rw [inW, List.any_append]; simp only [Bool.or_eq_true]; exact Or.inl hs)
  have y6 := hh.iv 93 9 (r := (0, 6)) rfl
  simp only at y6
  obtain ⟨e1, e2, e3, e4, e5, e6, e7⟩ := e
  refine ⟨by rw [g 44 1 rfl, g 93 11 rfl]; exact e1, fun j => by rw [g 45 j (by simp [inW, SUPC2, SYA]), g 100 j (by simp [inW, SUPC2, SYA])]; exact e2 j, by rw [g 0 6 rfl, g 93 9 rfl]; exact e3, fun i hi => ?_, n5, n6, fun j hj => by rw [g 108 j (by simp [inW, SUPC2, SYA])]; exact e7 j hj⟩
  rw [g 93 9 rfl] at hi
  exact YE_fr (by omega) gy (e4 i hi)
theorem st_plainC {T : Ctr} (i : Nat) (hT : (TBL.take 328)[i]? = some T) (hd : disW SUPI (cW T) = true) (hd2 : disW SUPE (cW T) = true) (hd3 : disW SUPC (cW T) = true) {X : Scr} {dp : Nat} {ρ : Nat → Int} {h : Hp} {as : List Value} {Q : Option Value → Hp → Prop} (hD : cD T ≤ dp) (hi : INVC h) (hb : bOK ρ (cB T)) (ha : al2 (vm (cB T).length ρ) (cA T) as) (hF : cF T = []) (hQ : ∀ v h', INVC h' → Qpost (cB T).length ρ (cP T) v h' → Q v h') : Ends X dp (cY T) 0 (entL (mMaxL (cY T)) as) [] h Q :=
  (gd1 i hT X dp ρ h as hD hi.1.1.1 (fun _ => hi.1.1.2.1) hb ha (by rw [hF]; intro q hq; cases hq)).mono (fun v h' q => hQ v h' ⟨⟨INV_fr hd q.1 q.2.1 hi.1.1, EQV_f hd2 q.2.1 hi.1.2⟩, EQC_f hi.1.1.1 hd3 q.2.1 hi.2⟩ q.2.2)
theorem st_shoutC {T : Ctr} (i : Nat) (hT : (TBL.take 328)[i]? = some T) (hd : disW SUPS (cW T) = true) (hd2 : disW SUPE (cW T) = true) (hd3 : disW SUPC (cW T) = true) (hp : (cP T).all (fun P => P.2.2.1.any (fun q => q.1 == 93 && q.2.1 == 1 && rngOK (trg P.1 q.2.2) (0, 999))) = true) {X : Scr} {dp : Nat} {ρ : Nat → Int} {h : Hp} {as : List Value} {Q : Option Value → Hp → Prop} (hD : cD T ≤ dp) (hi : INVC h) (hb : bOK ρ (cB T)) (ha : al2 (vm (cB T).length ρ) (cA T) as) (hF : ∀ q ∈ cF T, tOK (cB T).length ρ q.2.2 (h.2.1 q.1 q.2.1).toInt ∧ ∃ ci, SHl[q.1]? = some (.inr ci)) (hQ : ∀ v h', INVC h' → Qpost (cB T).length ρ (cP T) v h' → Q v h') : Ends X dp (cY T) 0 (entL (mMaxL (cY T)) as) [] h Q :=
  (gd1 i hT X dp ρ h as hD hi.1.1.1 (fun _ => hi.1.1.2.1) hb ha hF).mono (fun v h' q => hQ v h' ⟨⟨INV_frS hd q.1 q.2.1 (qp_fact q.2.2 hp).2 hi.1.1, EQV_f hd2 q.2.1 hi.1.2⟩, EQC_f hi.1.1.1 hd3 q.2.1 hi.2⟩ q.2.2)
theorem pc_55 {X : Scr} {dp : Nat} {h : Hp} {Q : Option Value → Hp → Prop} (a b c : Int32) (hD : cD k_55 ≤ dp) (hi : INVC h) (hQ : ∀ (r : Int32) h', INVC h' → Q (some (.int r)) h') : Ends X dp 65 0 (entL (mMaxL 65) [.ref 0, .int a, .int b, .int c]) [] h Q := by
  refine st_plainC (T := k_55) 55 (by rfl) (by decide +kernel) (by decide +kernel) (by decide +kernel) (ρ := fun v => if v = 0 then a.toInt else if v = 1 then b.toInt else c.toInt) hD hi ?_ ⟨⟨0, rfl, List.mem_singleton.mpr rfl⟩, ⟨a, rfl, by decide, by show a.toInt = a.toInt + 0; omega⟩, ⟨b, rfl, by decide, by show b.toInt = b.toInt + 0; omega⟩, ⟨c, rfl, by decide, by show c.toInt = c.toInt + 0; omega⟩, trivial⟩ rfl ?_
  · intro v q hq
    match v, hq with
    | 0, hq => cases hq; exact fI_ok a
    | 1, hq => cases hq; exact fI_ok b
    | 2, hq => cases hq; exact fI_ok c
    | v + 3, hq => cases hq
  · intro v h' p q
    obtain ⟨r, e, -⟩ := qp_int (lo := -2147483648) (hi := 2147483647) q (by decide +kernel)
    exact e ▸ hQ r h' p
theorem pc_148 {X : Scr} {dp : Nat} {h : Hp} {Q : Option Value → Hp → Prop} (a : Int32) (hD : cD k_148 ≤ dp) (hi : INVC h) (hQ : ∀ (r : Int32) h', INVC h' → Q (some (.int r)) h') : Ends X dp 70 0 (entL (mMaxL 70) [.ref 0, .int a]) [] h Q := by
  refine st_plainC (T := k_148) 148 (by rfl) (by decide +kernel) (by decide +kernel) (by decide +kernel) (ρ := fun _ => a.toInt) hD hi ?_ ⟨⟨0, rfl, List.mem_singleton.mpr rfl⟩, ⟨a, rfl, by decide, by show a.toInt = a.toInt + 0; omega⟩, trivial⟩ rfl ?_
  · intro v q hq
    match v, hq with
    | 0, hq => cases hq; exact fI_ok a
    | v + 1, hq => cases hq
  · intro v h' p q
    obtain ⟨r, e, -⟩ := qp_int (lo := -2147483648) (hi := 2147483647) q (by decide +kernel)
    exact e ▸ hQ r h' p
theorem pc_159 {X : Scr} {dp : Nat} {h : Hp} {Q : Option Value → Hp → Prop} (a b : Int32) (hD : cD k_159 ≤ dp) (hi : INVC h) (hQ : ∀ (r : Int32) h', INVC h' → Q (some (.int r)) h') : Ends X dp 88 0 (entL (mMaxL 88) [.ref 0, .int a, .int b]) [] h Q := by
  refine st_plainC (T := k_159) 159 (by rfl) (by decide +kernel) (by decide +kernel) (by decide +kernel) (ρ := fun v => if v = 0 then a.toInt else b.toInt) hD hi ?_ ⟨⟨0, rfl, List.mem_singleton.mpr rfl⟩, ⟨a, rfl, by decide, by show a.toInt = a.toInt + 0; omega⟩, ⟨b, rfl, by decide, by show b.toInt = b.toInt + 0; omega⟩, trivial⟩ rfl ?_
  · intro v q hq
    match v, hq with
    | 0, hq => cases hq; exact fI_ok a
    | 1, hq => cases hq; exact fI_ok b
    | v + 2, hq => cases hq
  · intro v h' p q
    obtain ⟨r, e, -⟩ := qp_int (lo := -2147483648) (hi := 2147483647) q (by decide +kernel)
    exact e ▸ hQ r h' p
theorem pc_228 {X : Scr} {dp : Nat} {h : Hp} {Q : Option Value → Hp → Prop} (a b c : Int32) (hD : cD k_228 ≤ dp) (hi : INVC h) (hQ : ∀ (r : Int32) h', INVC h' → Q (some (.int r)) h') : Ends X dp 115 0 (entL (mMaxL 115) [.ref 93, .int a, .int b, .int c]) [] h Q := by
  refine st_plainC (T := k_228) 228 (by rfl) (by decide +kernel) (by decide +kernel) (by decide +kernel) (ρ := fun v => if v = 0 then a.toInt else if v = 1 then b.toInt else c.toInt) hD hi ?_ ⟨⟨93, rfl, List.mem_singleton.mpr rfl⟩, ⟨a, rfl, by decide, by show a.toInt = a.toInt + 0; omega⟩, ⟨b, rfl, by decide, by show b.toInt = b.toInt + 0; omega⟩, ⟨c, rfl, by decide, by show c.toInt = c.toInt + 0; omega⟩, trivial⟩ rfl ?_
  · intro v q hq
    match v, hq with
    | 0, hq => cases hq; exact fI_ok a
    | 1, hq => cases hq; exact fI_ok b
    | 2, hq => cases hq; exact fI_ok c
    | v + 3, hq => cases hq
  · intro v h' p q
    obtain ⟨r, e, -⟩ := qp_int (lo := -2147483648) (hi := 2147483647) q (by decide +kernel)
    exact e ▸ hQ r h' p
theorem pc_235 {X : Scr} {dp : Nat} {h : Hp} {Q : Option Value → Hp → Prop} (a : Int32) (hD : cD k_235 ≤ dp) (hi : INVC h) (hQ : ∀ (r : Int32) h', INVC h' → Q (some (.int r)) h') : Ends X dp 150 0 (entL (mMaxL 150) [.ref 93, .int a]) [] h Q := by
  refine st_plainC (T := k_235) 235 (by rfl) (by decide +kernel) (by decide +kernel) (by decide +kernel) (ρ := fun _ => a.toInt) hD hi ?_ ⟨⟨93, rfl, List.mem_singleton.mpr rfl⟩, ⟨a, rfl, by decide, by show a.toInt = a.toInt + 0; omega⟩, trivial⟩ rfl ?_
  · intro v q hq
    match v, hq with
    | 0, hq => cases hq; exact fI_ok a
    | v + 1, hq => cases hq
  · intro v h' p q
    obtain ⟨r, e, -⟩ := qp_int (lo := -2147483648) (hi := 2147483647) q (by decide +kernel)
    exact e ▸ hQ r h' p
theorem pc_246 {X : Scr} {dp : Nat} {h : Hp} {Q : Option Value → Hp → Prop} (a b : Int32) (hD : cD k_246 ≤ dp) (hi : INVC h) (hQ : ∀ (r : Int32) h', INVC h' → Q (some (.int r)) h') : Ends X dp 183 0 (entL (mMaxL 183) [.ref 93, .int a, .int b]) [] h Q := by
  refine st_plainC (T := k_246) 246 (by rfl) (by decide +kernel) (by decide +kernel) (by decide +kernel) (ρ := fun v => if v = 0 then a.toInt else b.toInt) hD hi ?_ ⟨⟨93, rfl, List.mem_singleton.mpr rfl⟩, ⟨a, rfl, by decide, by show a.toInt = a.toInt + 0; omega⟩, ⟨b, rfl, by decide, by show b.toInt = b.toInt + 0; omega⟩, trivial⟩ rfl ?_
  · intro v q hq
    match v, hq with
    | 0, hq => cases hq; exact fI_ok a
    | 1, hq => cases hq; exact fI_ok b
    | v + 2, hq => cases hq
  · intro v h' p q
    obtain ⟨r, e, -⟩ := qp_int (lo := -2147483648) (hi := 2147483647) q (by decide +kernel)
    exact e ▸ hQ r h' p
theorem pc_293 {X : Scr} {dp : Nat} {h : Hp} {Q : Option Value → Hp → Prop} (a b : Int32) (hD : cD k_293 ≤ dp) (hi : INVC h) (hQ : ∀ (r : Int32) h', INVC h' → Q (some (.int r)) h') : Ends X dp 64 0 (entL (mMaxL 64) [.ref 0, .int a, .int b]) [] h Q := by
  refine st_plainC (T := k_293) 293 (by rfl) (by decide +kernel) (by decide +kernel) (by decide +kernel) (ρ := fun v => if v = 0 then a.toInt else b.toInt) hD hi ?_ ⟨⟨0, rfl, List.mem_singleton.mpr rfl⟩, ⟨a, rfl, by decide, by show a.toInt = a.toInt + 0; omega⟩, ⟨b, rfl, by decide, by show b.toInt = b.toInt + 0; omega⟩, trivial⟩ rfl ?_
  · intro v q hq
    match v, hq with
    | 0, hq => cases hq; exact fI_ok a
    | 1, hq => cases hq; exact fI_ok b
    | v + 2, hq => cases hq
  · intro v h' p q
    obtain ⟨r, e, -⟩ := qp_int (lo := -2147483648) (hi := 2147483647) q (by decide +kernel)
    exact e ▸ hQ r h' p
theorem pc_294 {X : Scr} {dp : Nat} {h : Hp} {Q : Option Value → Hp → Prop} (hD : cD k_294 ≤ dp) (hi : INVC h) (hQ : ∀ (r : Int32) h', INVC h' → Q (some (.int r)) h') : Ends X dp 71 0 (entL (mMaxL 71) [.ref 0]) [] h Q := by
  refine st_plainC (T := k_294) 294 (by rfl) (by decide +kernel) (by decide +kernel) (by decide +kernel) (ρ := fun _ => 0) hD hi ?_ ⟨⟨0, rfl, List.mem_singleton.mpr rfl⟩, trivial⟩ rfl ?_
  · intro v q hq
    match v, hq with
    | v, hq => cases hq
  · intro v h' p q
    obtain ⟨r, e, -⟩ := qp_int (lo := -2147483648) (hi := 2147483647) q (by decide +kernel)
    exact e ▸ hQ r h' p
theorem pc_296 {X : Scr} {dp : Nat} {h : Hp} {Q : Option Value → Hp → Prop} (a b : Int32) (hD : cD k_296 ≤ dp) (hi : INVC h) (hQ : ∀ (r : Int32) h', INVC h' → Q (some (.int r)) h') : Ends X dp 72 0 (entL (mMaxL 72) [.ref 0, .int a, .int b]) [] h Q := by
  refine st_plainC (T := k_296) 296 (by rfl) (by decide +kernel) (by decide +kernel) (by decide +kernel) (ρ := fun v => if v = 0 then a.toInt else b.toInt) hD hi ?_ ⟨⟨0, rfl, List.mem_singleton.mpr rfl⟩, ⟨a, rfl, by decide, by show a.toInt = a.toInt + 0; omega⟩, ⟨b, rfl, by decide, by show b.toInt = b.toInt + 0; omega⟩, trivial⟩ rfl ?_
  · intro v q hq
    match v, hq with
    | 0, hq => cases hq; exact fI_ok a
    | 1, hq => cases hq; exact fI_ok b
    | v + 2, hq => cases hq
  · intro v h' p q
    obtain ⟨r, e, -⟩ := qp_int (lo := -2147483648) (hi := 2147483647) q (by decide +kernel)
    exact e ▸ hQ r h' p
theorem pc_297 {X : Scr} {dp : Nat} {h : Hp} {Q : Option Value → Hp → Prop} (a : Int32) (hD : cD k_297 ≤ dp) (hi : INVC h) (hQ : ∀ (r : Int32) h', INVC h' → Q (some (.int r)) h') : Ends X dp 73 0 (entL (mMaxL 73) [.ref 0, .int a]) [] h Q := by
  refine st_plainC (T := k_297) 297 (by rfl) (by decide +kernel) (by decide +kernel) (by decide +kernel) (ρ := fun _ => a.toInt) hD hi ?_ ⟨⟨0, rfl, List.mem_singleton.mpr rfl⟩, ⟨a, rfl, by decide, by show a.toInt = a.toInt + 0; omega⟩, trivial⟩ rfl ?_
  · intro v q hq
    match v, hq with
    | 0, hq => cases hq; exact fI_ok a
    | v + 1, hq => cases hq
  · intro v h' p q
    obtain ⟨r, e, -⟩ := qp_int (lo := -2147483648) (hi := 2147483647) q (by decide +kernel)
    exact e ▸ hQ r h' p
theorem pc_298 {X : Scr} {dp : Nat} {h : Hp} {Q : Option Value → Hp → Prop} (a : Int32) (hD : cD k_298 ≤ dp) (hi : INVC h) (hQ : ∀ (r : Int32) h', INVC h' → Q (some (.int r)) h') : Ends X dp 74 0 (entL (mMaxL 74) [.ref 0, .int a]) [] h Q := by
  refine st_plainC (T := k_298) 298 (by rfl) (by decide +kernel) (by decide +kernel) (by decide +kernel) (ρ := fun _ => a.toInt) hD hi ?_ ⟨⟨0, rfl, List.mem_singleton.mpr rfl⟩, ⟨a, rfl, by decide, by show a.toInt = a.toInt + 0; omega⟩, trivial⟩ rfl ?_
  · intro v q hq
    match v, hq with
    | 0, hq => cases hq; exact fI_ok a
    | v + 1, hq => cases hq
  · intro v h' p q
    obtain ⟨r, e, -⟩ := qp_int (lo := -2147483648) (hi := 2147483647) q (by decide +kernel)
    exact e ▸ hQ r h' p
theorem pc_300 {X : Scr} {dp : Nat} {h : Hp} {Q : Option Value → Hp → Prop} (a b : Int32) (hD : cD k_300 ≤ dp) (hi : INVC h) (hQ : ∀ (r : Int32) h', INVC h' → Q (some (.int r)) h') : Ends X dp 75 0 (entL (mMaxL 75) [.ref 0, .int a, .int b]) [] h Q := by
  refine st_plainC (T := k_300) 300 (by rfl) (by decide +kernel) (by decide +kernel) (by decide +kernel) (ρ := fun v => if v = 0 then a.toInt else b.toInt) hD hi ?_ ⟨⟨0, rfl, List.mem_singleton.mpr rfl⟩, ⟨a, rfl, by decide, by show a.toInt = a.toInt + 0; omega⟩, ⟨b, rfl, by decide, by show b.toInt = b.toInt + 0; omega⟩, trivial⟩ rfl ?_
  · intro v q hq
    match v, hq with
    | 0, hq => cases hq; exact fI_ok a
    | 1, hq => cases hq; exact fI_ok b
    | v + 2, hq => cases hq
  · intro v h' p q
    obtain ⟨r, e, -⟩ := qp_int (lo := -2147483648) (hi := 2147483647) q (by decide +kernel)
    exact e ▸ hQ r h' p
theorem pc_301 {X : Scr} {dp : Nat} {h : Hp} {Q : Option Value → Hp → Prop} (a : Int32) (hD : cD k_301 ≤ dp) (hi : INVC h) (hQ : ∀ (r : Int32) h', INVC h' → Q (some (.int r)) h') : Ends X dp 76 0 (entL (mMaxL 76) [.ref 0, .int a]) [] h Q := by
  refine st_plainC (T := k_301) 301 (by rfl) (by decide +kernel) (by decide +kernel) (by decide +kernel) (ρ := fun _ => a.toInt) hD hi ?_ ⟨⟨0, rfl, List.mem_singleton.mpr rfl⟩, ⟨a, rfl, by decide, by show a.toInt = a.toInt + 0; omega⟩, trivial⟩ rfl ?_
  · intro v q hq
    match v, hq with
    | 0, hq => cases hq; exact fI_ok a
    | v + 1, hq => cases hq
  · intro v h' p q
    obtain ⟨r, e, -⟩ := qp_int (lo := -2147483648) (hi := 2147483647) q (by decide +kernel)
    exact e ▸ hQ r h' p
theorem pc_302 {X : Scr} {dp : Nat} {h : Hp} {Q : Option Value → Hp → Prop} (a : Int32) (hD : cD k_302 ≤ dp) (hi : INVC h) (hQ : ∀ (r : Int32) h', INVC h' → Q (some (.int r)) h') : Ends X dp 77 0 (entL (mMaxL 77) [.ref 0, .int a]) [] h Q := by
  refine st_plainC (T := k_302) 302 (by rfl) (by decide +kernel) (by decide +kernel) (by decide +kernel) (ρ := fun _ => a.toInt) hD hi ?_ ⟨⟨0, rfl, List.mem_singleton.mpr rfl⟩, ⟨a, rfl, by decide, by show a.toInt = a.toInt + 0; omega⟩, trivial⟩ rfl ?_
  · intro v q hq
    match v, hq with
    | 0, hq => cases hq; exact fI_ok a
    | v + 1, hq => cases hq
  · intro v h' p q
    obtain ⟨r, e, -⟩ := qp_int (lo := -2147483648) (hi := 2147483647) q (by decide +kernel)
    exact e ▸ hQ r h' p
theorem pc_303 {X : Scr} {dp : Nat} {h : Hp} {Q : Option Value → Hp → Prop} (hD : cD k_303 ≤ dp) (hi : INVC h) (hQ : ∀ (r : Int32) h', INVC h' → Q (some (.int r)) h') : Ends X dp 78 0 (entL (mMaxL 78) [.ref 0]) [] h Q := by
  refine st_plainC (T := k_303) 303 (by rfl) (by decide +kernel) (by decide +kernel) (by decide +kernel) (ρ := fun _ => 0) hD hi ?_ ⟨⟨0, rfl, List.mem_singleton.mpr rfl⟩, trivial⟩ rfl ?_
  · intro v q hq
    match v, hq with
    | v, hq => cases hq
  · intro v h' p q
    obtain ⟨r, e, -⟩ := qp_int (lo := -2147483648) (hi := 2147483647) q (by decide +kernel)
    exact e ▸ hQ r h' p
theorem pc_304 {X : Scr} {dp : Nat} {h : Hp} {Q : Option Value → Hp → Prop} (a : Int32) (hD : cD k_304 ≤ dp) (hi : INVC h) (hQ : ∀ (r : Int32) h', INVC h' → Q (some (.int r)) h') : Ends X dp 79 0 (entL (mMaxL 79) [.ref 0, .int a]) [] h Q := by
  refine st_plainC (T := k_304) 304 (by rfl) (by decide +kernel) (by decide +kernel) (by decide +kernel) (ρ := fun _ => a.toInt) hD hi ?_ ⟨⟨0, rfl, List.mem_singleton.mpr rfl⟩, ⟨a, rfl, by decide, by show a.toInt = a.toInt + 0; omega⟩, trivial⟩ rfl ?_
  · intro v q hq
    match v, hq with
    | 0, hq => cases hq; exact fI_ok a
    | v + 1, hq => cases hq
  · intro v h' p q
    obtain ⟨r, e, -⟩ := qp_int (lo := -2147483648) (hi := 2147483647) q (by decide +kernel)
    exact e ▸ hQ r h' p
theorem pc_306 {X : Scr} {dp : Nat} {h : Hp} {Q : Option Value → Hp → Prop} (a : Int32) (hD : cD k_306 ≤ dp) (hi : INVC h) (hQ : ∀ (r : Int32) h', INVC h' → Q (some (.int r)) h') : Ends X dp 80 0 (entL (mMaxL 80) [.ref 0, .int a]) [] h Q := by
  refine st_plainC (T := k_306) 306 (by rfl) (by decide +kernel) (by decide +kernel) (by decide +kernel) (ρ := fun _ => a.toInt) hD hi ?_ ⟨⟨0, rfl, List.mem_singleton.mpr rfl⟩, ⟨a, rfl, by decide, by show a.toInt = a.toInt + 0; omega⟩, trivial⟩ rfl ?_
  · intro v q hq
    match v, hq with
    | 0, hq => cases hq; exact fI_ok a
    | v + 1, hq => cases hq
  · intro v h' p q
    obtain ⟨r, e, -⟩ := qp_int (lo := -2147483648) (hi := 2147483647) q (by decide +kernel)
    exact e ▸ hQ r h' p
theorem pc_307 {X : Scr} {dp : Nat} {h : Hp} {Q : Option Value → Hp → Prop} (a b : Int32) (hD : cD k_307 ≤ dp) (hi : INVC h) (hQ : ∀ (r : Int32) h', INVC h' → Q (some (.int r)) h') : Ends X dp 81 0 (entL (mMaxL 81) [.ref 0, .int a, .int b]) [] h Q := by
  refine st_plainC (T := k_307) 307 (by rfl) (by decide +kernel) (by decide +kernel) (by decide +kernel) (ρ := fun v => if v = 0 then a.toInt else b.toInt) hD hi ?_ ⟨⟨0, rfl, List.mem_singleton.mpr rfl⟩, ⟨a, rfl, by decide, by show a.toInt = a.toInt + 0; omega⟩, ⟨b, rfl, by decide, by show b.toInt = b.toInt + 0; omega⟩, trivial⟩ rfl ?_
  · intro v q hq
    match v, hq with
    | 0, hq => cases hq; exact fI_ok a
    | 1, hq => cases hq; exact fI_ok b
    | v + 2, hq => cases hq
  · intro v h' p q
    obtain ⟨r, e, -⟩ := qp_int (lo := -2147483648) (hi := 2147483647) q (by decide +kernel)
    exact e ▸ hQ r h' p
theorem pc_308 {X : Scr} {dp : Nat} {h : Hp} {Q : Option Value → Hp → Prop} (a : Int32) (hD : cD k_308 ≤ dp) (hi : INVC h) (hQ : ∀ (r : Int32) h', INVC h' → Q (some (.int r)) h') : Ends X dp 83 0 (entL (mMaxL 83) [.ref 0, .int a]) [] h Q := by
  refine st_plainC (T := k_308) 308 (by rfl) (by decide +kernel) (by decide +kernel) (by decide +kernel) (ρ := fun _ => a.toInt) hD hi ?_ ⟨⟨0, rfl, List.mem_singleton.mpr rfl⟩, ⟨a, rfl, by decide, by show a.toInt = a.toInt + 0; omega⟩, trivial⟩ rfl ?_
  · intro v q hq
    match v, hq with
    | 0, hq => cases hq; exact fI_ok a
    | v + 1, hq => cases hq
  · intro v h' p q
    obtain ⟨r, e, -⟩ := qp_int (lo := -2147483648) (hi := 2147483647) q (by decide +kernel)
    exact e ▸ hQ r h' p
theorem pc_309 {X : Scr} {dp : Nat} {h : Hp} {Q : Option Value → Hp → Prop} (a b c : Int32) (hD : cD k_309 ≤ dp) (hi : INVC h) (hQ : ∀ (r : Int64) h', INVC h' → Q (some (.long r)) h') : Ends X dp 84 0 (entL (mMaxL 84) [.ref 0, .int a, .int b, .int c]) [] h Q := by
  refine st_plainC (T := k_309) 309 (by rfl) (by decide +kernel) (by decide +kernel) (by decide +kernel) (ρ := fun v => if v = 0 then a.toInt else if v = 1 then b.toInt else c.toInt) hD hi ?_ ⟨⟨0, rfl, List.mem_singleton.mpr rfl⟩, ⟨a, rfl, by decide, by show a.toInt = a.toInt + 0; omega⟩, ⟨b, rfl, by decide, by show b.toInt = b.toInt + 0; omega⟩, ⟨c, rfl, by decide, by show c.toInt = c.toInt + 0; omega⟩, trivial⟩ rfl ?_
  · intro v q hq
    match v, hq with
    | 0, hq => cases hq; exact fI_ok a
    | 1, hq => cases hq; exact fI_ok b
    | 2, hq => cases hq; exact fI_ok c
    | v + 3, hq => cases hq
  · intro v h' p q
    obtain ⟨r, e⟩ := qp_lng q (by decide +kernel)
    exact e ▸ hQ r h' p
theorem pc_310 {X : Scr} {dp : Nat} {h : Hp} {Q : Option Value → Hp → Prop} (a b : Int32) (hD : cD k_310 ≤ dp) (hi : INVC h) (hQ : ∀ (r : Int64) h', INVC h' → Q (some (.long r)) h') : Ends X dp 85 0 (entL (mMaxL 85) [.ref 0, .int a, .int b]) [] h Q := by
  refine st_plainC (T := k_310) 310 (by rfl) (by decide +kernel) (by decide +kernel) (by decide +kernel) (ρ := fun v => if v = 0 then a.toInt else b.toInt) hD hi ?_ ⟨⟨0, rfl, List.mem_singleton.mpr rfl⟩, ⟨a, rfl, by decide, by show a.toInt = a.toInt + 0; omega⟩, ⟨b, rfl, by decide, by show b.toInt = b.toInt + 0; omega⟩, trivial⟩ rfl ?_
  · intro v q hq
    match v, hq with
    | 0, hq => cases hq; exact fI_ok a
    | 1, hq => cases hq; exact fI_ok b
    | v + 2, hq => cases hq
  · intro v h' p q
    obtain ⟨r, e⟩ := qp_lng q (by decide +kernel)
    exact e ▸ hQ r h' p
theorem pc_311 {X : Scr} {dp : Nat} {h : Hp} {Q : Option Value → Hp → Prop} (hD : cD k_311 ≤ dp) (hi : INVC h) (hQ : ∀ (r : Int32) h', INVC h' → Q (some (.int r)) h') : Ends X dp 87 0 (entL (mMaxL 87) [.ref 0]) [] h Q := by
  refine st_plainC (T := k_311) 311 (by rfl) (by decide +kernel) (by decide +kernel) (by decide +kernel) (ρ := fun _ => 0) hD hi ?_ ⟨⟨0, rfl, List.mem_singleton.mpr rfl⟩, trivial⟩ rfl ?_
  · intro v q hq
    match v, hq with
    | v, hq => cases hq
  · intro v h' p q
    obtain ⟨r, e, -⟩ := qp_int (lo := -2147483648) (hi := 2147483647) q (by decide +kernel)
    exact e ▸ hQ r h' p
theorem pc_312 {X : Scr} {dp : Nat} {h : Hp} {Q : Option Value → Hp → Prop} (a b : Int32) (hD : cD k_312 ≤ dp) (hi : INVC h) (hQ : ∀ (r : Int32) h', INVC h' → Q (some (.int r)) h') : Ends X dp 149 0 (entL (mMaxL 149) [.ref 93, .int a, .int b]) [] h Q := by
  refine st_plainC (T := k_312) 312 (by rfl) (by decide +kernel) (by decide +kernel) (by decide +kernel) (ρ := fun v => if v = 0 then a.toInt else b.toInt) hD hi ?_ ⟨⟨93, rfl, List.mem_singleton.mpr rfl⟩, ⟨a, rfl, by decide, by show a.toInt = a.toInt + 0; omega⟩, ⟨b, rfl, by decide, by show b.toInt = b.toInt + 0; omega⟩, trivial⟩ rfl ?_
  · intro v q hq
    match v, hq with
    | 0, hq => cases hq; exact fI_ok a
    | 1, hq => cases hq; exact fI_ok b
    | v + 2, hq => cases hq
  · intro v h' p q
    obtain ⟨r, e, -⟩ := qp_int (lo := -2147483648) (hi := 2147483647) q (by decide +kernel)
    exact e ▸ hQ r h' p
theorem pc_317 {X : Scr} {dp : Nat} {h : Hp} {Q : Option Value → Hp → Prop} (a : Int32) (hD : cD k_317 ≤ dp) (hi : INVC h) (hQ : ∀ (r : Int32) h', INVC h' → Q (some (.int r)) h') : Ends X dp 165 0 (entL (mMaxL 165) [.ref 93, .int a]) [] h Q := by
  refine st_plainC (T := k_317) 317 (by rfl) (by decide +kernel) (by decide +kernel) (by decide +kernel) (ρ := fun _ => a.toInt) hD hi ?_ ⟨⟨93, rfl, List.mem_singleton.mpr rfl⟩, ⟨a, rfl, by decide, by show a.toInt = a.toInt + 0; omega⟩, trivial⟩ rfl ?_
  · intro v q hq
    match v, hq with
    | 0, hq => cases hq; exact fI_ok a
    | v + 1, hq => cases hq
  · intro v h' p q
    obtain ⟨r, e, -⟩ := qp_int (lo := -2147483648) (hi := 2147483647) q (by decide +kernel)
    exact e ▸ hQ r h' p
theorem pc_318 {X : Scr} {dp : Nat} {h : Hp} {Q : Option Value → Hp → Prop} (a b : Int32) (hD : cD k_318 ≤ dp) (hi : INVC h) (hQ : ∀ (r : Int32) h', INVC h' → Q (some (.int r)) h') : Ends X dp 166 0 (entL (mMaxL 166) [.ref 93, .int a, .int b]) [] h Q := by
  refine st_plainC (T := k_318) 318 (by rfl) (by decide +kernel) (by decide +kernel) (by decide +kernel) (ρ := fun v => if v = 0 then a.toInt else b.toInt) hD hi ?_ ⟨⟨93, rfl, List.mem_singleton.mpr rfl⟩, ⟨a, rfl, by decide, by show a.toInt = a.toInt + 0; omega⟩, ⟨b, rfl, by decide, by show b.toInt = b.toInt + 0; omega⟩, trivial⟩ rfl ?_
  · intro v q hq
    match v, hq with
    | 0, hq => cases hq; exact fI_ok a
    | 1, hq => cases hq; exact fI_ok b
    | v + 2, hq => cases hq
  · intro v h' p q
    obtain ⟨r, e, -⟩ := qp_int (lo := -2147483648) (hi := 2147483647) q (by decide +kernel)
    exact e ▸ hQ r h' p
theorem pc_319 {X : Scr} {dp : Nat} {h : Hp} {Q : Option Value → Hp → Prop} (a : Int32) (hD : cD k_319 ≤ dp) (hi : INVC h) (hQ : ∀ (r : Int32) h', INVC h' → Q (some (.int r)) h') : Ends X dp 167 0 (entL (mMaxL 167) [.ref 93, .int a]) [] h Q := by
  refine st_plainC (T := k_319) 319 (by rfl) (by decide +kernel) (by decide +kernel) (by decide +kernel) (ρ := fun _ => a.toInt) hD hi ?_ ⟨⟨93, rfl, List.mem_singleton.mpr rfl⟩, ⟨a, rfl, by decide, by show a.toInt = a.toInt + 0; omega⟩, trivial⟩ rfl ?_
  · intro v q hq
    match v, hq with
    | 0, hq => cases hq; exact fI_ok a
    | v + 1, hq => cases hq
  · intro v h' p q
    obtain ⟨r, e, -⟩ := qp_int (lo := -2147483648) (hi := 2147483647) q (by decide +kernel)
    exact e ▸ hQ r h' p
theorem pc_320 {X : Scr} {dp : Nat} {h : Hp} {Q : Option Value → Hp → Prop} (a : Int32) (hD : cD k_320 ≤ dp) (hi : INVC h) (hQ : ∀ (r : Int32) h', INVC h' → Q (some (.int r)) h') : Ends X dp 168 0 (entL (mMaxL 168) [.ref 93, .int a]) [] h Q := by
  refine st_plainC (T := k_320) 320 (by rfl) (by decide +kernel) (by decide +kernel) (by decide +kernel) (ρ := fun _ => a.toInt) hD hi ?_ ⟨⟨93, rfl, List.mem_singleton.mpr rfl⟩, ⟨a, rfl, by decide, by show a.toInt = a.toInt + 0; omega⟩, trivial⟩ rfl ?_
  · intro v q hq
    match v, hq with
    | 0, hq => cases hq; exact fI_ok a
    | v + 1, hq => cases hq
  · intro v h' p q
    obtain ⟨r, e, -⟩ := qp_int (lo := -2147483648) (hi := 2147483647) q (by decide +kernel)
    exact e ▸ hQ r h' p
theorem pc_321 {X : Scr} {dp : Nat} {h : Hp} {Q : Option Value → Hp → Prop} (hD : cD k_321 ≤ dp) (hi : INVC h) (hQ : ∀ (r : Int32) h', INVC h' → Q (some (.int r)) h') : Ends X dp 169 0 (entL (mMaxL 169) [.ref 93]) [] h Q := by
  refine st_plainC (T := k_321) 321 (by rfl) (by decide +kernel) (by decide +kernel) (by decide +kernel) (ρ := fun _ => 0) hD hi ?_ ⟨⟨93, rfl, List.mem_singleton.mpr rfl⟩, trivial⟩ rfl ?_
  · intro v q hq
    match v, hq with
    | v, hq => cases hq
  · intro v h' p q
    obtain ⟨r, e, -⟩ := qp_int (lo := -2147483648) (hi := 2147483647) q (by decide +kernel)
    exact e ▸ hQ r h' p
theorem pc_323 {X : Scr} {dp : Nat} {h : Hp} {Q : Option Value → Hp → Prop} (a : Int32) (hD : cD k_323 ≤ dp) (hi : INVC h) (hQ : ∀ (r : Int32) h', INVC h' → Q (some (.int r)) h') : Ends X dp 176 0 (entL (mMaxL 176) [.ref 93, .int a]) [] h Q := by
  refine st_plainC (T := k_323) 323 (by rfl) (by decide +kernel) (by decide +kernel) (by decide +kernel) (ρ := fun _ => a.toInt) hD hi ?_ ⟨⟨93, rfl, List.mem_singleton.mpr rfl⟩, ⟨a, rfl, by decide, by show a.toInt = a.toInt + 0; omega⟩, trivial⟩ rfl ?_
  · intro v q hq
    match v, hq with
    | 0, hq => cases hq; exact fI_ok a
    | v + 1, hq => cases hq
  · intro v h' p q
    obtain ⟨r, e, -⟩ := qp_int (lo := -2147483648) (hi := 2147483647) q (by decide +kernel)
    exact e ▸ hQ r h' p
theorem pc_325 {X : Scr} {dp : Nat} {h : Hp} {Q : Option Value → Hp → Prop} (a b c : Int32) (hD : cD k_325 ≤ dp) (hi : INVC h) (hQ : ∀ (r : Int64) h', INVC h' → Q (some (.long r)) h') : Ends X dp 179 0 (entL (mMaxL 179) [.ref 93, .int a, .int b, .int c]) [] h Q := by
  refine st_plainC (T := k_325) 325 (by rfl) (by decide +kernel) (by decide +kernel) (by decide +kernel) (ρ := fun v => if v = 0 then a.toInt else if v = 1 then b.toInt else c.toInt) hD hi ?_ ⟨⟨93, rfl, List.mem_singleton.mpr rfl⟩, ⟨a, rfl, by decide, by show a.toInt = a.toInt + 0; omega⟩, ⟨b, rfl, by decide, by show b.toInt = b.toInt + 0; omega⟩, ⟨c, rfl, by decide, by show c.toInt = c.toInt + 0; omega⟩, trivial⟩ rfl ?_
  · intro v q hq
    match v, hq with
    | 0, hq => cases hq; exact fI_ok a
    | 1, hq => cases hq; exact fI_ok b
    | 2, hq => cases hq; exact fI_ok c
    | v + 3, hq => cases hq
  · intro v h' p q
    obtain ⟨r, e⟩ := qp_lng q (by decide +kernel)
    exact e ▸ hQ r h' p
theorem pc_56 {X : Scr} {dp : Nat} {h : Hp} {Q : Option Value → Hp → Prop} (a b : Int32) (h1 : 0 ≤ b.toInt) (h2 : b.toInt ≤ 1) (hD : cD k_56 ≤ dp) (hi : INVC h) (hQ : ∀ (r : Int32) h', INVC h' → Q (some (.int r)) h') : Ends X dp 66 0 (entL (mMaxL 66) [.ref 0, .int a, .int b]) [] h Q := by
  refine st_plainC (T := k_56) 56 (by rfl) (by decide +kernel) (by decide +kernel) (by decide +kernel) (ρ := fun v => if v = 0 then a.toInt else b.toInt) hD hi (bo2 h1 h2) ⟨⟨0, rfl, List.mem_singleton.mpr rfl⟩, ⟨a, rfl, by decide, by show a.toInt = a.toInt + 0; omega⟩, ⟨b, rfl, by decide, by show b.toInt = b.toInt + 0; omega⟩, trivial⟩ rfl ?_
  intro v h' p q
  obtain ⟨r, e, -⟩ := qp_int (lo := -2147483648) (hi := 2147483647) q (by decide +kernel)
  exact e ▸ hQ r h' p
theorem pc_229 {X : Scr} {dp : Nat} {h : Hp} {Q : Option Value → Hp → Prop} (a b : Int32) (h1 : 0 ≤ b.toInt) (h2 : b.toInt ≤ 1) (hD : cD k_229 ≤ dp) (hi : INVC h) (hQ : ∀ (r : Int32) h', INVC h' → Q (some (.int r)) h') : Ends X dp 116 0 (entL (mMaxL 116) [.ref 93, .int a, .int b]) [] h Q := by
  refine st_plainC (T := k_229) 229 (by rfl) (by decide +kernel) (by decide +kernel) (by decide +kernel) (ρ := fun v => if v = 0 then a.toInt else b.toInt) hD hi (bo2 h1 h2) ⟨⟨93, rfl, List.mem_singleton.mpr rfl⟩, ⟨a, rfl, by decide, by show a.toInt = a.toInt + 0; omega⟩, ⟨b, rfl, by decide, by show b.toInt = b.toInt + 0; omega⟩, trivial⟩ rfl ?_
  intro v h' p q
  obtain ⟨r, e, -⟩ := qp_int (lo := -2147483648) (hi := 2147483647) q (by decide +kernel)
  exact e ▸ hQ r h' p
theorem shout_c {X : Scr} {dp : Nat} {h : Hp} {Q : Option Value → Hp → Prop} (hD : cD k_314 ≤ dp) (hi : INVC h) (hQ : ∀ (r : Int32) h', INVC h' → Q (some (.int r)) h') : Ends X dp 159 0 (entL (mMaxL 159) [.ref 93]) [] h Q := by
  refine st_shoutC (T := k_314) 314 (by rfl) (by decide +kernel) (by decide +kernel) (by decide +kernel) (by decide +kernel) (ρ := fun _ => (h.2.1 93 1).toInt) hD hi ?_ ⟨⟨93, rfl, List.mem_singleton.mpr rfl⟩, trivial⟩ ?_ ?_
  · intro v q hq
    match v, hq with
    | 0, hq => cases hq; exact ⟨lo931 hi.1.1, hi.1.1.2.2.2.1⟩
    | v + 1, hq => cases hq
  · intro q hq
    cases hq with
    | head => exact ⟨⟨by decide, by show (h.2.1 93 1).toInt = (h.2.1 93 1).toInt + 0; omega⟩, cls93⟩
    | tail _ t => cases t
  · intro v h' a b
    obtain ⟨r, e, -⟩ := qp_int (lo := -3) (hi := 127) b (by decide +kernel)
    exact e ▸ hQ r h' a
theorem looked_c {X : Scr} {dp : Nat} {h : Hp} {Q : Option Value → Hp → Prop} (hD : cD k_327 ≤ dp) (hi : INVC h) (hQ : ∀ (r : Int32) h', INVC h' → Q (some (.int r)) h') : Ends X dp 182 0 (entL (mMaxL 182) [.ref 93]) [] h Q := by
  refine st_shoutC (T := k_327) 327 (by rfl) (by decide +kernel) (by decide +kernel) (by decide +kernel) (by decide +kernel) (ρ := fun _ => (h.2.1 93 1).toInt) hD hi ?_ ⟨⟨93, rfl, List.mem_singleton.mpr rfl⟩, trivial⟩ ?_ ?_
  · intro v q hq
    match v, hq with
    | 0, hq => cases hq; exact ⟨lo931 hi.1.1, hi.1.1.2.2.2.1⟩
    | v + 1, hq => cases hq
  · intro q hq
    cases hq with
    | head => exact ⟨⟨by decide, by show (h.2.1 93 1).toInt = (h.2.1 93 1).toInt + 0; omega⟩, cls93⟩
    | tail _ t => cases t
  · intro v h' a b
    obtain ⟨r, e, -⟩ := qp_int (lo := -100) (hi := 127) b (by decide +kernel)
    exact e ▸ hQ r h' a
theorem on_c {X : Scr} {dp : Nat} {h : Hp} {Q : Option Value → Hp → Prop} (a b : Int32) (hD : cD k_315 ≤ dp) (hi : INVC h) (hQ : ∀ (r : Int32) h', INVC h' → Q (some (.int r)) h') : Ends X dp 162 0 (entL (mMaxL 162) [.ref 93, .int a, .int b]) [] h Q := by
  refine st_shoutC (T := k_315) 315 (by rfl) (by decide +kernel) (by decide +kernel) (by decide +kernel) (by decide +kernel) (ρ := fun v => if v = 0 then a.toInt else if v = 1 then b.toInt else (h.2.1 93 1).toInt) hD hi (bo3 (lo931 hi.1.1) hi.1.1.2.2.2.1) ⟨⟨93, rfl, List.mem_singleton.mpr rfl⟩, ⟨a, rfl, by decide, by show a.toInt = a.toInt + 0; omega⟩, ⟨b, rfl, by decide, by show b.toInt = b.toInt + 0; omega⟩, trivial⟩ ?_ ?_
  · intro q hq
    cases hq with
    | head => exact ⟨⟨by decide, by show (h.2.1 93 1).toInt = (h.2.1 93 1).toInt + 0; omega⟩, cls93⟩
    | tail _ t => cases t
  · intro v h' a b
    obtain ⟨r, e, -⟩ := qp_int (lo := -2) (hi := 960) b (by decide +kernel)
    exact e ▸ hQ r h' a
theorem last_c {X : Scr} {dp : Nat} {h : Hp} {Q : Option Value → Hp → Prop} (a : Int32) (hD : cD k_316 ≤ dp) (hi : INVC h) (hQ : ∀ (r : Int32) h', INVC h' → Q (some (.int r)) h') : Ends X dp 164 0 (entL (mMaxL 164) [.ref 93, .int a]) [] h Q := by
  refine st_shoutC (T := k_316) 316 (by rfl) (by decide +kernel) (by decide +kernel) (by decide +kernel) (by decide +kernel) (ρ := fun v => if v = 0 then a.toInt else (h.2.1 93 1).toInt) hD hi ?_ ⟨⟨93, rfl, List.mem_singleton.mpr rfl⟩, ⟨a, rfl, by decide, by show a.toInt = a.toInt + 0; omega⟩, trivial⟩ ?_ ?_
  · intro v q hq
    match v, hq with
    | 0, hq => cases hq; exact i32r a
    | 1, hq => cases hq; exact ⟨lo931 hi.1.1, hi.1.1.2.2.2.1⟩
    | v + 2, hq => cases hq
  · intro q hq
    cases hq with
    | head => exact ⟨⟨by decide, by show (h.2.1 93 1).toInt = (h.2.1 93 1).toInt + 0; omega⟩, cls93⟩
    | tail _ t => cases t
  · intro v h' a b
    obtain ⟨r, e, -⟩ := qp_int (lo := -5) (hi := 30) b (by decide +kernel)
    exact e ▸ hQ r h' a
theorem mean_c {X : Scr} {dp : Nat} {h : Hp} {Q : Option Value → Hp → Prop} (a b : Int32) (hD : cD k_326 ≤ dp) (hi : INVC h) (hQ : ∀ (r : Int64) h', INVC h' → Q (some (.long r)) h') : Ends X dp 180 0 (entL (mMaxL 180) [.ref 93, .int a, .int b]) [] h Q := by
  refine st_shoutC (T := k_326) 326 (by rfl) (by decide +kernel) (by decide +kernel) (by decide +kernel) (by decide +kernel) (ρ := fun v => if v = 0 then a.toInt else if v = 1 then b.toInt else (h.2.1 93 1).toInt) hD hi (bo3 (lo931 hi.1.1) hi.1.1.2.2.2.1) ⟨⟨93, rfl, List.mem_singleton.mpr rfl⟩, ⟨a, rfl, by decide, by show a.toInt = a.toInt + 0; omega⟩, ⟨b, rfl, by decide, by show b.toInt = b.toInt + 0; omega⟩, trivial⟩ ?_ ?_
  · intro q hq
    cases hq with
    | head => exact ⟨⟨by decide, by show (h.2.1 93 1).toInt = (h.2.1 93 1).toInt + 0; omega⟩, cls93⟩
    | tail _ t => cases t
  · intro v h' a b
    obtain ⟨r, e⟩ := qp_lng b (by decide +kernel)
    exact e ▸ hQ r h' a
theorem alone_c {X : Scr} {dp : Nat} {h : Hp} {Q : Option Value → Hp → Prop} (w : Int32) (hd : 40 ≤ dp) (hi : INVC h) (hQ : ∀ (r : Int32) h', INVC h' → Q (some (.int r)) h') : Ends X (dp + 1) 170 0 [.ref 93, .int w, .retAddr 0, .retAddr 0] [] h Q :=
  alone_f w hd hi.1.1 (fun r h' a f => hQ r h' ⟨⟨a, EQV_f (W := WAL) (by decide) f hi.1.2⟩, EQC_f (W := WAL) hi.1.1.1 (by decide) f hi.2⟩)
theorem spread_c {X : Scr} {dp : Nat} {h : Hp} {Q : Option Value → Hp → Prop} (k : Int32) (hd : 40 ≤ dp) (hi : INVC h) (hQ : ∀ (r : Int32) h', INVC h' → Q (some (.int r)) h') : Ends X (dp + 1 + 1 + 1) 173 0 [.ref 93, .int k, .retAddr 0, .retAddr 0, .retAddr 0, .retAddr 0, .retAddr 0] [] h Q :=
  spread_s k hd hi.1.1.1 hi.1.1.2.1 (by rw [hi.1.1.2.2.1]; rfl) (fun r h' a b _ => hQ r h' ⟨⟨INV_fr (W := WSP) (by decide) a b hi.1.1, EQV_f (W := WSP) (by decide) b hi.1.2⟩, EQC_f (W := WSP) hi.1.1.1 (by decide) b hi.2⟩)
theorem behind_c {X : Scr} {dp : Nat} {h : Hp} {Q : Option Value → Hp → Prop} (p o : Int32) (hd : 40 ≤ dp) (hi : INVC h) (hQ : ∀ (r : Int32) h', INVC h' → Q (some (.int r)) h') : Ends X (dp + 1) 174 0 [.ref 93, .int p, .int o, .retAddr 0, .retAddr 0] [] h Q :=
  behind_s p o hd hi.1.1.1 hi.1.1.2.1 (fun r h' a b => hQ r h' ⟨⟨INV_fr (W := WBH) (by decide) a b hi.1.1, EQV_f (W := WBH) (by decide) b hi.1.2⟩, EQC_f (W := WBH) hi.1.1.1 (by decide) b hi.2⟩)
section CP2
variable {X : Scr} {dp : Nat} {h h0 : Hp} {Q : Option Value → Hp → Prop}
theorem row_pairC (p a n : Int32) (hi : INVC h) {K : Hp → Int32 → Int32 → Prop} (hK : ∀ r h', INVC h' → K h' r r) (hQ : ∀ r h1, HI h1 → REF X (dp + 1 + 1) 117 [.ref 93, .int p, .int a, .int n, .retAddr 0] K r h1 → Q (some (.int r)) h1) : Ends X (dp + 1 + 1) 67 0 [.ref 0, .int p, .int a, .int n, .retAddr 0] [] h Q :=
  row_pair p a n hi.1 (fun r h' a f => hK r h' ⟨a, EQC_f (W := WRW) hi.1.1.1 (by decide) f hi.2⟩) hQ
theorem see_pairC (a : Int32) (hi : INVC h) {K : Hp → Int32 → Int32 → Prop} (hK : ∀ r h', INVC h' → K h' r r) (hQ : ∀ r h1, HI h1 → REF X (dp + 1 + 1) 175 [.ref 93, .int a, .retAddr 0] K r h1 → Q (some (.int r)) h1) : Ends X (dp + 1 + 1) 82 0 [.ref 0, .int a, .retAddr 0] [] h Q :=
  see_pair a hi.1 (fun r h' a f => hK r h' ⟨a, EQC_f (W := WSE) hi.1.1.1 (by decide) f hi.2⟩) hQ
theorem book_pairC (a : Int32) (hi : INVC h) {K : Hp → Int32 → Int32 → Prop} (hK : ∀ r h', INVC h' → K h' r r) (hQ : ∀ r h1, HI h1 → REF X (dp + 1 + 1) 181 [.ref 93, .int a] K r h1 → Q (some (.int r)) h1) : Ends X (dp + 1 + 1) 86 0 [.ref 0, .int a] [] h Q :=
  book_pair a hi.1 (fun r h' a f => hK r h' ⟨a, EQC_f (W := WBO) hi.1.1.1 (by decide) f hi.2⟩) hQ
theorem tape_pairC (t s n : Int32) (hi : INVC h) {K : Hp → Int32 → Int32 → Prop} (hK : ∀ r h', INVC h' → K h' r r) (hQ : ∀ r h1, HI h1 → REF X (dp + 1 + 1) 199 [.ref 93, .int t, .int s, .int n, .retAddr 0] K r h1 → Q (some (.int r)) h1) : Ends X (dp + 1 + 1) 95 0 [.ref 0, .int t, .int s, .int n] [] h Q :=
  tape_pair t s n hi.1 (fun r h' a f => hK r h' ⟨a, EQC_f (W := WTA) hi.1.1.1 (by decide) f hi.2⟩) hQ
theorem item_pairC (t i : Int32) (v : Int64) (hi : INVC h) {K : Hp → Int32 → Int32 → Prop} (hK : ∀ r h', INVC h' → K h' r r) (hQ : ∀ r h1, HI h1 → REF X (dp + 1 + 1) 201 [.ref 93, .int t, .int i, .long v, .retAddr 0] K r h1 → Q (some (.int r)) h1) : Ends X (dp + 1 + 1) 96 0 [.ref 0, .int t, .int i, .long v, .retAddr 0] [] h Q :=
  item_pair t i v hi.1 (fun r h' a f => hK r h' ⟨a, EQC_f (W := WIT) hi.1.1.1 (by decide) f hi.2⟩) hQ
theorem shift_pairC (t i o j n : Int32) (hi : INVC h) {K : Hp → Int32 → Int32 → Prop} (hK : ∀ r h', INVC h' → K h' r r) (hQ : ∀ r h1, HI h1 → REF X (dp + 1 + 1) 203 [.ref 93, .int t, .int i, .int o, .int j, .int n, .retAddr 0] K r h1 → Q (some (.int r)) h1) : Ends X (dp + 1 + 1) 98 0 [.ref 0, .int t, .int i, .int o, .int j, .int n] [] h Q :=
  shift_pair t i o j n hi.1 (fun r h' a f => hK r h' ⟨a, EQC_f (W := WSF) hi.1.1.1 (by decide) f hi.2⟩) hQ
theorem read_pairC (t i : Int32) (hi : INVC h) {K : Hp → Int64 → Int64 → Prop} (hK : ∀ r h', INVC h' → K h' r r) (hQ : ∀ r h1, HI h1 → REFL X (dp + 1 + 1) 202 [.ref 93, .int t, .int i] K r h1 → Q (some (.long r)) h1) : Ends X (dp + 1 + 1) 97 0 [.ref 0, .int t, .int i] [] h Q :=
  read_pair t i hi.1 (fun r h' a f => hK r h' ⟨a, EQC_f (W := []) hi.1.1.1 (by decide) f hi.2⟩) hQ
theorem act_pairC (p a x : Int32) (hd : 8 ≤ dp) (hi : INVC h) {K : Hp → Int32 → Int32 → Prop} (hK : ∀ r h', INVC h' → K h' r r) (hQ : ∀ r h1, HI h1 → REF X dp 194 [.ref 93, .int p, .int a, .int x] K r h1 → Q (some (.int r)) h1) : Ends X dp 91 0 [.ref 0, .int p, .int a, .int x] [] h Q :=
  act_pair p a x hd hi.1 (fun r h' a f => hK r h' ⟨a, EQC_f (W := WAC) hi.1.1.1 (by decide) f hi.2⟩) hQ
theorem trace_pairC (i : Int32) (hi : INVC h) {K : Hp → Int32 → Int32 → Prop} (hK : ∀ r h', INVC h' → K h' r r) (hQ : ∀ r h1, HI h1 → REF X (dp + 1) 195 [.ref 93, .int i] K r h1 → Q (some (.int r)) h1) : Ends X (dp + 1) 92 0 [.ref 0, .int i] [] h Q :=
  trace_pair i hi.1 (fun r h' a f => hK r h' ⟨a, EQC_f (W := []) hi.1.1.1 (by decide) f hi.2⟩) hQ
theorem taken_pairC (p k : Int32) (hi : INVC h) {K : Hp → Int32 → Int32 → Prop} (hK : ∀ r h', INVC h' → K h' r r) (hQ : ∀ r h1, HI h1 → REF X (dp + 1 + 1) 196 [.ref 93, .int p, .int k, .retAddr 0] K r h1 → Q (some (.int r)) h1) : Ends X (dp + 1 + 1) 93 0 [.ref 0, .int p, .int k, .retAddr 0, .retAddr 0, .retAddr 0] [] h Q :=
  taken_pair p k hi.1 (fun r h' a f => hK r h' ⟨a, EQC_f (W := []) hi.1.1.1 (by decide) f hi.2⟩) hQ
theorem per_pairC (k v l p s : Int32) (hi : INVC h) {K : Hp → Int32 → Int32 → Prop} (hK : ∀ r h', INVC h' → K h' r r) (hQ : ∀ r h1, HI h1 → REF X (dp + 1) 114 [.ref 93, .int k, .int v, .int l, .int p, .int s, .retAddr 0] K r h1 → Q (some (.int r)) h1) : Ends X (dp + 1) 63 0 [.ref 0, .int k, .int v, .int l, .int p, .int s] [] h Q :=
  per_pairE k v l p s hi.1 (fun r h' a f => hK r h' ⟨a, EQC_f (W := WPJ) hi.1.1.1 (by decide) f hi.2⟩) hQ
theorem img_pairC (hi : INVC h) {K : Hp → Int32 → Int32 → Prop} (hK : ∀ r h', INVC h' → K h' r r) (hQ : ∀ r h1, HI h1 → REF X (dp + 1) 184 [.ref 93, .retAddr 0] K r h1 → Q (some (.int r)) h1) : Ends X (dp + 1) 89 0 [.ref 0] [] h Q :=
  img_pairE hi.1 (fun r h' a f p q => hK r h' ⟨a, EQC_g (W := WIM) hi.1.1.1 (by decide) f hi.2 (by rw [frI f (by rfl), frI f (by rfl)]; exact hi.2.2.2.2.2.1) (by rw [p, q]; exact hi.2.2.2.2.2.1)⟩) hQ
theorem und_pairC (hi : INVC h) {K : Hp → Int32 → Int32 → Prop} (hK : ∀ r h', INVC h' → K h' r r) (hQ : ∀ r h1, HI h1 → REF X (dp + 1) 185 [.ref 93, .retAddr 0] K r h1 → Q (some (.int r)) h1) : Ends X (dp + 1) 90 0 [.ref 0] [] h Q :=
  und_pairE hi.1 (fun r h' a f p => hK r h' (by
    rcases p with rfl | ⟨p, q⟩
    · exact ⟨a, hi.2⟩
    · exact ⟨a, EQC_g (W := WUN) hi.1.1.1 (by decide) f hi.2 (by rw [p, q]; exact hi.2.2.2.2.2.2.1) (by rw [frI f (by rfl), frI f (by rfl)]; exact hi.2.2.2.2.2.2.1)⟩)) hQ
end CP2
theorem ltr_ok : ((List.range 14).all (fun j => decide ((hI0.2.1 108 j).toInt = [114, 101, 97, 99, 104, 104, 111, 108, 100, 100, 111, 100, 103, 101].getD j 0))) = true := by decide +kernel
theorem txt_ok : (eqB hI0 45 100 100 && decide (hI0.2.1 44 1 = hI0.2.1 93 11) && decide (hI0.2.1 0 6 = hI0.2.1 93 9) && decide (hI0.2.1 93 9 = 0) && decide (hI0.2.1 1 12 = hI0.2.1 93 10) && decide (hI0.2.1 9 12 = hI0.2.1 93 45)) = true := by decide +kernel
set_option maxRecDepth 20000 in
theorem out_100 : ∀ a : Nat, (a = 45 ∨ a = 100) → ∀ j : Nat, 100 ≤ j → hI0.2.1 a j = 0 := by
  have hs := mk2_eq.2
  have zb : ∀ a k, outB hI0 a k → hI0.2.1 a k = 0 ∧ hI0.2.2.1 a k = 0 ∧ hI0.2.2.2 a k = none := hI_ZB
  intro a ha j hj
  refine (zb a j ?_).1
  unfold outB
  rw [hs]
  rcases ha with rfl | rfl
  · have e : SHl[45]? = some (.inl (0, 100)) := by decide +kernel
    rw [e]
    exact hj
  · have e : SHl[100]? = some (.inl (0, 100)) := by decide +kernel
    rw [e]
    exact hj
theorem INVC_0 : INVC hI0 := by
  have f := txt_ok
  simp only [Bool.and_eq_true, decide_eq_true_eq] at f
  obtain ⟨⟨⟨⟨⟨f1, f2⟩, f3⟩, f4⟩, f5⟩, f6⟩ := f
  refine ⟨INVE_0, f2, fun j => ?_, f3, fun i hi => ?_, f5, f6, fun j hj => of_decide_eq_true (List.all_eq_true.mp ltr_ok j (List.mem_range.mpr hj))⟩
  · by_cases c : j < 100
    · exact eqB_ok f1 j c
    · rw [out_100 45 (Or.inl rfl) j (by omega), out_100 100 (Or.inr rfl) j (by omega)]
  · rw [f4] at hi
    exact absurd hi (Nat.not_lt_zero _)
end JN99tw8plainc
