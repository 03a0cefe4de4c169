/-! Acts, exactly: the answer and the bodies that ran. -/
theorem Ends.dpl {X : Scr} {dp dq y pc : Nat} {L st : List Value} {h : Hp} {Q : Option Value → Hp → Prop} (hd : dp ≤ dq) (e : Ends X dp y pc L st h Q) : Ends X dq y pc L st h Q := by
  obtain ⟨n, v, h', hr, hq⟩ := e
  exact ⟨n, v, h', run_dpl hd hr, hq⟩
/-- since h0 just these were written down, behind n others -/
def AP (a k b : Nat) (h0 : Hp) (l : List Int32) (h : Hp) : Prop := HI h ∧ frm [(a, k), (b, 999)] h0 h ∧ (h.2.1 a k).toInt = (l.length : Int) ∧ ∀ j, h.2.1 b j = if j < l.length then l.getD j 0 else h0.2.1 b j
theorem AP_0 {a k b : Nat} {h : Hp} (hh : HI h) (h1 : (ivl a k).1 ≤ 0) (h2 : 0 ≤ (ivl a k).2) (hn : a ≠ b) : AP a k b h [] (hpI h a k 0) := by
  refine ⟨HI_put hh h1 h2, frm_put frm_refl (by simp [inW]), by rw [put_at]; rfl, fun j => ?_⟩
  have c : ¬ j < ([] : List Int32).length := Nat.not_lt_zero j
  rw [if_neg c, put_ne (by omega)]
theorem AP_snoc {a k b : Nat} {h0 h : Hp} {l : List Int32} {x y : Int32} (hn : a ≠ b) (ha : AP a k b h0 l h) (i1 : (ivl b l.length).1 ≤ x.toInt) (i2 : x.toInt ≤ (ivl b l.length).2) (i3 : (ivl a k).1 ≤ y.toInt) (i4 : y.toInt ≤ (ivl a k).2) (hy : y.toInt = ((l.length + 1 : Nat) : Int)) : AP a k b h0 (l ++ [x]) (hpI (hpI h b l.length x) a k y) := by
  obtain ⟨hh, hf, hk, hb⟩ := ha
  refine ⟨HI_put (HI_put hh i1 i2) i3 i4, frm_put (frm_put hf (by simp [inW])) (by simp [inW]), ?_, fun j => ?_⟩
  · rw [put_at, hy, List.length_append]; rfl
  · rw [put_ne (by omega), put_if, List.length_append, List.getD_eq_getElem?_getD]
    by_cases c : j = l.length
    · rw [if_pos c, if_pos (by show j < l.length + 1; omega), c, List.getElem?_append_right (Nat.le_refl _), Nat.sub_self]
      rfl
    · rw [if_neg c, hb j, List.getD_eq_getElem?_getD]
      by_cases d : j < l.length
      · rw [if_pos d, if_pos (by show j < l.length + 1; omega), List.getElem?_append_left d]
      · rw [if_neg d, if_neg (by show ¬ j < l.length + 1; omega)]
section ACTS
variable {X : Scr} {h0 h : Hp} {Q : Option Value → Hp → Prop} {l : List Int32}
theorem i20 : (20 : Int32).toInt = 20 := rfl
theorem fIr (a k : Nat) (x : Int32) (hi : ivl a k = (-2147483648, 2147483647)) : (ivl a k).1 ≤ x.toInt ∧ x.toInt ≤ (ivl a k).2 := by
  rw [hi]
  exact i32r x
theorem ivl52 : ∀ j, j < 20 → ivl 52 j = (-2147483648, 2147483647) := by decide +kernel
theorem ivl122 : ∀ j, j < 20 → ivl 122 j = (-2147483648, 2147483647) := by decide +kernel
theorem cbeg_ok {dp : Nat} {b : Int32} (c : Int32) (hc : b = c) (hp : AP 51 4 52 h0 l h) (hl : l.length < 20) (hQ : ∀ h', AP 51 4 52 h0 (l ++ [c]) h' → Q none h') : Ends X dp 4 0 [.ref 51, .int b] [] h Q := by
  subst hc
  have hk := hp.2.2.1
  refine w_cbeg b hp.1.hs ⟨fun e => ?_, fun e => ⟨fun e2 => ?_, fun e2 => ⟨inB_iff (by omega) (by omega), ?_⟩⟩⟩
  · exfalso
    have e : (h.2.1 51 4).toInt < 0 := of_decide_eq_true (cI e)
    omega
  · exfalso
    have e : 20 ≤ (h.2.1 51 4).toInt := of_decide_eq_true (cI e2)
    omega
  · have g : (h.2.1 51 4 + 1).toInt = ((l.length + 1 : Nat) : Int) := by rw [i_add (by rw [i1]; omega) (by rw [i1]; omega), i1]; omega
    have q : (h.2.1 51 4).toNatClampNeg = l.length := by show (h.2.1 51 4).toInt.toNat = _; omega
    rw [q]
    generalize h.2.1 51 4 + 1 = u at g ⊢
    have r1 := fIr 52 l.length b (ivl52 _ hl)
    have r2 := fIr 51 4 u (by decide +kernel)
    exact hQ _ (AP_snoc (by decide) hp r1.1 r1.2 r2.1 r2.2 g)
theorem mbod_ok {dp : Nat} (b : Int32) (hp : AP 93 58 122 h0 l h) (hl : l.length < 20) (hQ : ∀ h', AP 93 58 122 h0 (l ++ [b]) h' → Q none h') : Ends X dp 186 0 [.ref 93, .int b] [] h Q := by
  have hk := hp.2.2.1
  refine w_mbod b hp.1.hs ⟨fun e2 => ?_, fun e2 => ⟨inB_iff (by omega) (by omega), ?_⟩⟩
  · exfalso
    have e : 20 ≤ (h.2.1 93 58).toInt := of_decide_eq_true (cI e2)
    omega
  · have g : (h.2.1 93 58 + 1).toInt = ((l.length + 1 : Nat) : Int) := by rw [i_add (by rw [i1]; omega) (by rw [i1]; omega), i1]; omega
    have q : (h.2.1 93 58).toNatClampNeg = l.length := by show (h.2.1 93 58).toInt.toNat = _; omega
    rw [q]
    generalize h.2.1 93 58 + 1 = u at g ⊢
    have r1 := fIr 122 l.length b (ivl122 _ hl)
    exact hQ _ (AP_snoc (by decide) hp r1.1 r1.2 (by show (0 : Int) ≤ _; omega) (by show _ ≤ (100 : Int); omega) g)
/-- what runs(..) of one of kind k is, and the bodies that ran for it -/
def aRA (k p v x : Int32) : Int32 := if k = 2 then x * 3 + p else if k = 4 then -(x + p) else if k = 5 then x * 3 + p else if k = 6 then (x + p) ^^^ v else x + p
def lRL (k : Int32) : List Int32 := if k = 2 then [30, 10] else if k = 4 then [50, 10] else if k = 5 then [30, 10] else if k = 6 then [71, 10] else [10]
def aH1 (k p v x : Int32) : Int32 := aRA k p v x - v
def lH1 (k : Int32) : List Int32 := 11 :: lRL k
def aHA (f k p v x : Int32) : Int32 := if f = 1 then aH1 k p v x ^^^ 6 else if f = 4 then aH1 k p v (x + 1) ^^^ 6 else if f = 6 then aH1 k p v x + (2 + p) else aH1 k p v x
def lHL (f k : Int32) : List Int32 := if f = 1 then 20 :: lH1 k else if f = 4 then 51 :: 20 :: lH1 k else if f = 6 then 70 :: (lH1 k ++ [10]) else lH1 k
def aT1 (k p v x : Int32) : Int32 := aHA k k p v x * 2
def lT1 (k : Int32) : List Int32 := 12 :: lHL k k
def aTA (f k p v x : Int32) : Int32 := if f = 3 then aT1 k p v x + aHA k k p v 1 else if f = 5 then aT1 k p v (x - p) else if f = 6 then aT1 k p v x + aHA k k p v 1 else aT1 k p v x
def lTL (f k : Int32) : List Int32 := if f = 3 then 40 :: (lT1 k ++ lHL k k) else if f = 5 then 60 :: lT1 k else if f = 6 then 40 :: (lT1 k ++ lHL k k) else lT1 k
theorem kcases {k : Int32} (h1 : 0 ≤ k.toInt) (h2 : k.toInt ≤ 6) : k = 0 ∨ k = 1 ∨ k = 2 ∨ k = 3 ∨ k = 4 ∨ k = 5 ∨ k = 6 := by
  have e : ∀ c : Int32, k.toInt = c.toInt → k = c := fun c q => Int32.toInt_inj.mp q
  have c0 : (0 : Int32).toInt = 0 := rfl
  have c1 : (1 : Int32).toInt = 1 := rfl
  have c2 : (2 : Int32).toInt = 2 := rfl
  have c3 : (3 : Int32).toInt = 3 := rfl
  have c4 : (4 : Int32).toInt = 4 := rfl
  have c5 : (5 : Int32).toInt = 5 := rfl
  have c6 : (6 : Int32).toInt = 6 := rfl
  rcases (show k.toInt = 0 ∨ k.toInt = 1 ∨ k.toInt = 2 ∨ k.toInt = 3 ∨ k.toInt = 4 ∨ k.toInt = 5 ∨ k.toInt = 6 by omega) with q | q | q | q | q | q | q
  · exact Or.inl (e 0 (by rw [q, c0]))
  · exact Or.inr (Or.inl (e 1 (by rw [q, c1])))
  · exact Or.inr (Or.inr (Or.inl (e 2 (by rw [q, c2]))))
  · exact Or.inr (Or.inr (Or.inr (Or.inl (e 3 (by rw [q, c3])))))
  · exact Or.inr (Or.inr (Or.inr (Or.inr (Or.inl (e 4 (by rw [q, c4]))))))
  · exact Or.inr (Or.inr (Or.inr (Or.inr (Or.inr (Or.inl (e 5 (by rw [q, c5])))))))
  · exact Or.inr (Or.inr (Or.inr (Or.inr (Or.inr (Or.inr (e 6 (by rw [q, c6])))))))
theorem lRL_len {k : Int32} : (lRL k).length ≤ 2 := by
  unfold lRL
  split
  · decide
  · split
    · decide
    · split
      · decide
      · split
        · decide
        · decide
theorem lH1_len {k : Int32} : (lH1 k).length ≤ 3 := by
  have := lRL_len (k := k)
  unfold lH1
  rw [List.length_cons]
  omega
theorem lHL_len {f k : Int32} : (lHL f k).length ≤ 5 := by
  have := lH1_len (k := k)
  unfold lHL
  split
  · rw [List.length_cons]; omega
  · split
    · rw [List.length_cons, List.length_cons]; omega
    · split
      · rw [List.length_cons, List.length_append, List.length_singleton]; omega
      · omega
theorem lT1_len {k : Int32} : (lT1 k).length ≤ 6 := by
  have := lHL_len (f := k) (k := k)
  unfold lT1
  rw [List.length_cons]
  omega
/-- the class's own numbers during an act -/
def CK (h0 : Hp) (k p v : Int32) : Prop := h0.2.1 51 0 = p ∧ h0.2.1 51 1 = k ∧ h0.2.1 51 2 = v
theorem CK_at {k p v : Int32} (hc : CK h0 k p v) (ha : AP 51 4 52 h0 l h) : h.2.1 51 0 = p ∧ h.2.1 51 1 = k ∧ h.2.1 51 2 = v := ⟨by rw [frI ha.2.1 rfl]; exact hc.1, by rw [frI ha.2.1 rfl]; exact hc.2.1, by rw [frI ha.2.1 rfl]; exact hc.2.2⟩
theorem d40 {d : Int32} (h1 : d.toInt ≤ 40) : condB .le d 40 = false → False := by
  intro e
  have e : ¬ d.toInt ≤ 40 := of_decide_eq_false (cI e)
  exact e h1
theorem dsuc {d : Int32} {n : Int} (h0 : 0 ≤ d.toInt) (h1 : d.toInt ≤ n) (hn : n ≤ 100) : 0 ≤ (d + 1).toInt ∧ (d + 1).toInt ≤ n + 1 := by
  have : (d + 1).toInt = d.toInt + 1 := by rw [i_add (by rw [i1]; omega) (by rw [i1]; omega), i1]
  omega

theorem D10 {k p v : Int32} (f x d : Int32) (own : ∀ (h : Hp) (Q : Option Value → Hp → Prop), HS h → Q (some (.int 0)) h → Ends X 0 3 0 [.int 0, .int f, .retAddr 0, .retAddr 0] [] h Q) (hk : 0 ≤ k.toInt ∧ k.toInt ≤ 6) (hc : CK h0 k p v) (hd0 : 0 ≤ d.toInt) (hd : d.toInt ≤ 40) (hl : l.length + 1 ≤ 20) (hp : AP 51 4 52 h0 l h) (hQ : ∀ h', AP 51 4 52 h0 (l ++ [10]) h' → Q (some (.int (x + p))) h') : Ends X 1 2 0 [.ref 51, .int 0, .int f, .int x, .int d, .retAddr 0, .retAddr 0, .retAddr 0, .retAddr 0] [] h Q := by
  have ds := dsuc hd0 hd (by decide)
  refine w_does (dp := 0) 0 f x d hp.1.hs (own h _ hp.1.hs ⟨0, rfl, hp.1.hs, fun e => absurd e (by decide), fun _ => ⟨fun e => absurd e (by decide), fun _ => ⟨fun _ => ⟨by decide, by decide, cbeg_ok 10 (by decide) hp (by omega) (fun h9 q9 => ⟨rfl, q9.1.hs, fun e => absurd e (by decide), fun _ => (by rw [(CK_at hc q9).1]; exact hQ h9 q9), fun e => absurd e (by decide), fun e => absurd e (by decide), fun e => absurd e (by decide), fun e => absurd e (by decide), fun e => absurd e (by decide), fun e => absurd e (by decide), fun e => absurd e (by decide), fun e => absurd e (by decide), fun e => absurd e (by decide), fun e => absurd e (by decide)⟩)⟩, fun e => (d40 (by omega) e).elim⟩⟩⟩)
theorem D30 {k p v : Int32} (f x d : Int32) (own : ∀ (h : Hp) (Q : Option Value → Hp → Prop), HS h → Q (some (.int 2)) h → Ends X 1 3 0 [.int 0, .int f, .retAddr 0, .retAddr 0] [] h Q) (hk : 0 ≤ k.toInt ∧ k.toInt ≤ 6) (hc : CK h0 k p v) (hd0 : 0 ≤ d.toInt) (hd : d.toInt ≤ 39) (hl : l.length + 2 ≤ 20) (hp : AP 51 4 52 h0 l h) (hQ : ∀ h', AP 51 4 52 h0 (l ++ [30, 10]) h' → Q (some (.int (x * 3 + p))) h') : Ends X 2 2 0 [.ref 51, .int 0, .int f, .int x, .int d, .retAddr 0, .retAddr 0, .retAddr 0, .retAddr 0] [] h Q := by
  have ds := dsuc hd0 hd (by decide)
  refine w_does (dp := 1) 0 f x d hp.1.hs (own h _ hp.1.hs ⟨2, rfl, hp.1.hs, fun e => absurd e (by decide), fun _ => ⟨fun e => absurd e (by decide), fun _ => ⟨fun _ => ⟨by decide, by decide, cbeg_ok 30 (by decide) hp (by omega) (fun h9 q9 => ⟨rfl, q9.1.hs, fun e => absurd e (by decide), fun e => absurd e (by decide), fun e => absurd e (by decide), fun e => absurd e (by decide), fun e => absurd e (by decide), fun _ => (by rw [show aboveL.getD (2 : Int32).toNatClampNeg 0 = 0 from by decide]; exact D10 0 (x * 3) (d + 1) (fun h Q hs hq => w_own00 hs hq) hk hc ds.1 (by omega) (by rw [List.length_append, List.length_singleton]; omega) q9 (fun h1 q1 => ⟨_, rfl, q1.1.hs, hQ _ (by simpa using q1)⟩)), fun e => absurd e (by decide), fun e => absurd e (by decide), fun e => absurd e (by decide), fun e => absurd e (by decide), fun e => absurd e (by decide), fun e => absurd e (by decide)⟩)⟩, fun e => (d40 (by omega) e).elim⟩⟩⟩)
theorem D50 {k p v : Int32} (f x d : Int32) (own : ∀ (h : Hp) (Q : Option Value → Hp → Prop), HS h → Q (some (.int 4)) h → Ends X 1 3 0 [.int 0, .int f, .retAddr 0, .retAddr 0] [] h Q) (hk : 0 ≤ k.toInt ∧ k.toInt ≤ 6) (hc : CK h0 k p v) (hd0 : 0 ≤ d.toInt) (hd : d.toInt ≤ 39) (hl : l.length + 2 ≤ 20) (hp : AP 51 4 52 h0 l h) (hQ : ∀ h', AP 51 4 52 h0 (l ++ [50, 10]) h' → Q (some (.int (-(x + p)))) h') : Ends X 2 2 0 [.ref 51, .int 0, .int f, .int x, .int d, .retAddr 0, .retAddr 0, .retAddr 0, .retAddr 0] [] h Q := by
  have ds := dsuc hd0 hd (by decide)
  refine w_does (dp := 1) 0 f x d hp.1.hs (own h _ hp.1.hs ⟨4, rfl, hp.1.hs, fun e => absurd e (by decide), fun _ => ⟨fun e => absurd e (by decide), fun _ => ⟨fun _ => ⟨by decide, by decide, cbeg_ok 50 (by decide) hp (by omega) (fun h9 q9 => ⟨rfl, q9.1.hs, fun e => absurd e (by decide), fun e => absurd e (by decide), fun e => absurd e (by decide), fun e => absurd e (by decide), fun e => absurd e (by decide), fun e => absurd e (by decide), fun e => absurd e (by decide), fun _ => (by rw [show aboveL.getD (4 : Int32).toNatClampNeg 0 = 1 from by decide]; exact D10 1 x (d + 1) (fun h Q hs hq => w_own01 hs hq) hk hc ds.1 (by omega) (by rw [List.length_append, List.length_singleton]; omega) q9 (fun h1 q1 => ⟨_, rfl, q1.1.hs, hQ _ (by simpa using q1)⟩)), fun e => absurd e (by decide), fun e => absurd e (by decide), fun e => absurd e (by decide), fun e => absurd e (by decide)⟩)⟩, fun e => (d40 (by omega) e).elim⟩⟩⟩)
theorem D71 {k p v : Int32} (f x d : Int32) (own : ∀ (h : Hp) (Q : Option Value → Hp → Prop), HS h → Q (some (.int 6)) h → Ends X 1 3 0 [.int 0, .int f, .retAddr 0, .retAddr 0] [] h Q) (hk : 0 ≤ k.toInt ∧ k.toInt ≤ 6) (hc : CK h0 k p v) (hd0 : 0 ≤ d.toInt) (hd : d.toInt ≤ 39) (hl : l.length + 2 ≤ 20) (hp : AP 51 4 52 h0 l h) (hQ : ∀ h', AP 51 4 52 h0 (l ++ [71, 10]) h' → Q (some (.int ((x + p) ^^^ v))) h') : Ends X 2 2 0 [.ref 51, .int 0, .int f, .int x, .int d, .retAddr 0, .retAddr 0, .retAddr 0, .retAddr 0] [] h Q := by
  have ds := dsuc hd0 hd (by decide)
  refine w_does (dp := 1) 0 f x d hp.1.hs (own h _ hp.1.hs ⟨6, rfl, hp.1.hs, fun e => absurd e (by decide), fun _ => ⟨fun e => absurd e (by decide), fun _ => ⟨fun _ => ⟨by decide, by decide, cbeg_ok 71 (by decide) hp (by omega) (fun h9 q9 => ⟨rfl, q9.1.hs, fun e => absurd e (by decide), fun e => absurd e (by decide), fun e => absurd e (by decide), fun e => absurd e (by decide), fun e => absurd e (by decide), fun e => absurd e (by decide), fun e => absurd e (by decide), fun e => absurd e (by decide), fun e => absurd e (by decide), fun e => absurd e (by decide), fun e => absurd e (by decide), fun _ => (by rw [show aboveL.getD (6 : Int32).toNatClampNeg 0 = 3 from by decide]; exact D10 3 x (d + 1) (fun h Q hs hq => w_own03 hs hq) hk hc ds.1 (by omega) (by rw [List.length_append, List.length_singleton]; omega) q9 (fun h1 q1 => ⟨_, rfl, q1.1.hs, by rw [(CK_at hc q1).2.2]; exact hQ _ (by simpa using q1)⟩))⟩)⟩, fun e => (d40 (by omega) e).elim⟩⟩⟩)
theorem DR {k p v : Int32} (f x d : Int32) (hf : 0 ≤ f.toInt ∧ f.toInt ≤ 6) (hk : 0 ≤ k.toInt ∧ k.toInt ≤ 6) (hc : CK h0 k p v) (hd0 : 0 ≤ d.toInt) (hd : d.toInt ≤ 39) (hl : l.length + 2 ≤ 20) (hp : AP 51 4 52 h0 l h) (hQ : ∀ h', AP 51 4 52 h0 (l ++ lRL f) h' → Q (some (.int (aRA f p v x))) h') : Ends X 2 2 0 [.ref 51, .int 0, .int f, .int x, .int d, .retAddr 0, .retAddr 0, .retAddr 0, .retAddr 0] [] h Q := by
  rcases kcases hf.1 hf.2 with rfl | rfl | rfl | rfl | rfl | rfl | rfl
  · exact Ends.dpl (by decide) (D10 0 x d (fun h Q hs hq => w_own00 hs hq) hk hc hd0 (by omega) (by omega) hp (fun h1 q1 => hQ h1 q1))
  · exact Ends.dpl (by decide) (D10 1 x d (fun h Q hs hq => w_own01 hs hq) hk hc hd0 (by omega) (by omega) hp (fun h1 q1 => hQ h1 q1))
  · exact Ends.dpl (by decide) (D30 2 x d (fun h Q hs hq => w_own02 hs hq) hk hc hd0 (by omega) (by omega) hp (fun h1 q1 => hQ h1 q1))
  · exact Ends.dpl (by decide) (D10 3 x d (fun h Q hs hq => w_own03 hs hq) hk hc hd0 (by omega) (by omega) hp (fun h1 q1 => hQ h1 q1))
  · exact Ends.dpl (by decide) (D50 4 x d (fun h Q hs hq => w_own04 hs hq) hk hc hd0 (by omega) (by omega) hp (fun h1 q1 => hQ h1 q1))
  · exact Ends.dpl (by decide) (D30 5 x d (fun h Q hs hq => w_own05 hs hq) hk hc hd0 (by omega) (by omega) hp (fun h1 q1 => hQ h1 q1))
  · exact Ends.dpl (by decide) (D71 6 x d (fun h Q hs hq => w_own06 hs hq) hk hc hd0 (by omega) (by omega) hp (fun h1 q1 => hQ h1 q1))
theorem D11 {k p v : Int32} (f x d : Int32) (own : ∀ (h : Hp) (Q : Option Value → Hp → Prop), HS h → Q (some (.int 0)) h → Ends X 2 3 0 [.int 1, .int f, .retAddr 0, .retAddr 0] [] h Q) (hk : 0 ≤ k.toInt ∧ k.toInt ≤ 6) (hc : CK h0 k p v) (hd0 : 0 ≤ d.toInt) (hd : d.toInt ≤ 38) (hl : l.length + 3 ≤ 20) (hp : AP 51 4 52 h0 l h) (hQ : ∀ h', AP 51 4 52 h0 (l ++ lH1 k) h' → Q (some (.int (aH1 k p v x))) h') : Ends X 3 2 0 [.ref 51, .int 1, .int f, .int x, .int d, .retAddr 0, .retAddr 0, .retAddr 0, .retAddr 0] [] h Q := by
  have ds := dsuc hd0 hd (by decide)
  refine w_does (dp := 2) 1 f x d hp.1.hs (own h _ hp.1.hs ⟨0, rfl, hp.1.hs, fun e => absurd e (by decide), fun _ => ⟨fun e => absurd e (by decide), fun _ => ⟨fun _ => ⟨by decide, by decide, cbeg_ok 11 (by decide) hp (by omega) (fun h9 q9 => ⟨rfl, q9.1.hs, fun e => absurd e (by decide), fun e => absurd e (by decide), fun _ => (by rw [(CK_at hc q9).2.1]; exact DR k x (d + 1) hk hk hc ds.1 (by omega) (by rw [List.length_append, List.length_singleton]; omega) q9 (fun h1 q1 => ⟨_, rfl, q1.1.hs, by rw [(CK_at hc q1).2.2]; exact hQ _ (by unfold lH1; simpa using q1)⟩)), fun e => absurd e (by decide), fun e => absurd e (by decide), fun e => absurd e (by decide), fun e => absurd e (by decide), fun e => absurd e (by decide), fun e => absurd e (by decide), fun e => absurd e (by decide), fun e => absurd e (by decide), fun e => absurd e (by decide)⟩)⟩, fun e => (d40 (by omega) e).elim⟩⟩⟩)
theorem D20 {k p v : Int32} (f x d : Int32) (own : ∀ (h : Hp) (Q : Option Value → Hp → Prop), HS h → Q (some (.int 1)) h → Ends X 3 3 0 [.int 1, .int f, .retAddr 0, .retAddr 0] [] h Q) (hk : 0 ≤ k.toInt ∧ k.toInt ≤ 6) (hc : CK h0 k p v) (hd0 : 0 ≤ d.toInt) (hd : d.toInt ≤ 37) (hl : l.length + 4 ≤ 20) (hp : AP 51 4 52 h0 l h) (hQ : ∀ h', AP 51 4 52 h0 (l ++ (20 :: lH1 k)) h' → Q (some (.int (aH1 k p v x ^^^ 6))) h') : Ends X 4 2 0 [.ref 51, .int 1, .int f, .int x, .int d, .retAddr 0, .retAddr 0, .retAddr 0, .retAddr 0] [] h Q := by
  have ds := dsuc hd0 hd (by decide)
  refine w_does (dp := 3) 1 f x d hp.1.hs (own h _ hp.1.hs ⟨1, rfl, hp.1.hs, fun e => absurd e (by decide), fun _ => ⟨fun e => absurd e (by decide), fun _ => ⟨fun _ => ⟨by decide, by decide, cbeg_ok 20 (by decide) hp (by omega) (fun h9 q9 => ⟨rfl, q9.1.hs, fun e => absurd e (by decide), fun e => absurd e (by decide), fun e => absurd e (by decide), fun e => absurd e (by decide), fun _ => (by rw [show aboveL.getD (1 : Int32).toNatClampNeg 0 = 0 from by decide]; exact D11 0 x (d + 1) (fun h Q hs hq => w_own10 hs hq) hk hc ds.1 (by omega) (by rw [List.length_append, List.length_singleton]; omega) q9 (fun h1 q1 => ⟨_, rfl, q1.1.hs, hQ _ (by simpa using q1)⟩)), fun e => absurd e (by decide), fun e => absurd e (by decide), fun e => absurd e (by decide), fun e => absurd e (by decide), fun e => absurd e (by decide), fun e => absurd e (by decide), fun e => absurd e (by decide)⟩)⟩, fun e => (d40 (by omega) e).elim⟩⟩⟩)
theorem D51 {k p v : Int32} (f x d : Int32) (own : ∀ (h : Hp) (Q : Option Value → Hp → Prop), HS h → Q (some (.int 4)) h → Ends X 4 3 0 [.int 1, .int f, .retAddr 0, .retAddr 0] [] h Q) (hk : 0 ≤ k.toInt ∧ k.toInt ≤ 6) (hc : CK h0 k p v) (hd0 : 0 ≤ d.toInt) (hd : d.toInt ≤ 36) (hl : l.length + 5 ≤ 20) (hp : AP 51 4 52 h0 l h) (hQ : ∀ h', AP 51 4 52 h0 (l ++ (51 :: 20 :: lH1 k)) h' → Q (some (.int (aH1 k p v (x + 1) ^^^ 6))) h') : Ends X 5 2 0 [.ref 51, .int 1, .int f, .int x, .int d, .retAddr 0, .retAddr 0, .retAddr 0, .retAddr 0] [] h Q := by
  have ds := dsuc hd0 hd (by decide)
  refine w_does (dp := 4) 1 f x d hp.1.hs (own h _ hp.1.hs ⟨4, rfl, hp.1.hs, fun e => absurd e (by decide), fun _ => ⟨fun e => absurd e (by decide), fun _ => ⟨fun _ => ⟨by decide, by decide, cbeg_ok 51 (by decide) hp (by omega) (fun h9 q9 => ⟨rfl, q9.1.hs, fun e => absurd e (by decide), fun e => absurd e (by decide), fun e => absurd e (by decide), fun e => absurd e (by decide), fun e => absurd e (by decide), fun e => absurd e (by decide), fun e => absurd e (by decide), fun e => absurd e (by decide), fun _ => (by rw [show aboveL.getD (4 : Int32).toNatClampNeg 0 = 1 from by decide]; exact D20 1 (x + 1) (d + 1) (fun h Q hs hq => w_own11 hs hq) hk hc ds.1 (by omega) (by rw [List.length_append, List.length_singleton]; omega) q9 (fun h1 q1 => ⟨_, rfl, q1.1.hs, hQ _ (by simpa using q1)⟩)), fun e => absurd e (by decide), fun e => absurd e (by decide), fun e => absurd e (by decide)⟩)⟩, fun e => (d40 (by omega) e).elim⟩⟩⟩)
theorem D70 {k p v : Int32} (f x d : Int32) (own : ∀ (h : Hp) (Q : Option Value → Hp → Prop), HS h → Q (some (.int 6)) h → Ends X 3 3 0 [.int 1, .int f, .retAddr 0, .retAddr 0] [] h Q) (hk : 0 ≤ k.toInt ∧ k.toInt ≤ 6) (hc : CK h0 k p v) (hd0 : 0 ≤ d.toInt) (hd : d.toInt ≤ 37) (hl : l.length + 5 ≤ 20) (hp : AP 51 4 52 h0 l h) (hQ : ∀ h', AP 51 4 52 h0 (l ++ (70 :: (lH1 k ++ [10]))) h' → Q (some (.int (aH1 k p v x + (2 + p)))) h') : Ends X 4 2 0 [.ref 51, .int 1, .int f, .int x, .int d, .retAddr 0, .retAddr 0, .retAddr 0, .retAddr 0] [] h Q := by
  have ds := dsuc hd0 hd (by decide)
  have hl3 := lH1_len (k := k)
  refine w_does (dp := 3) 1 f x d hp.1.hs (own h _ hp.1.hs ⟨6, rfl, hp.1.hs, fun e => absurd e (by decide), fun _ => ⟨fun e => absurd e (by decide), fun _ => ⟨fun _ => ⟨by decide, by decide, cbeg_ok 70 (by decide) hp (by omega) (fun h9 q9 => ⟨rfl, q9.1.hs, fun e => absurd e (by decide), fun e => absurd e (by decide), fun e => absurd e (by decide), fun e => absurd e (by decide), fun e => absurd e (by decide), fun e => absurd e (by decide), fun e => absurd e (by decide), fun e => absurd e (by decide), fun e => absurd e (by decide), fun e => absurd e (by decide), fun _ => (by rw [show aboveL.getD (6 : Int32).toNatClampNeg 0 = 3 from by decide]; exact D11 3 x (d + 1) (fun h Q hs hq => w_own13 hs hq) hk hc ds.1 (by omega) (by rw [List.length_append, List.length_singleton]; omega) q9 (fun h1 q1 => ⟨_, rfl, q1.1.hs, Ends.dpl (by decide) (D10 3 2 (d + 1) (fun h Q hs hq => w_own03 hs hq) hk hc ds.1 (by omega) (by rw [List.length_append, List.length_append, List.length_singleton]; omega) q1 (fun h2 q2 => ⟨_, rfl, q2.1.hs, hQ _ (by simpa using q2)⟩))⟩)), fun e => absurd e (by decide)⟩)⟩, fun e => (d40 (by omega) e).elim⟩⟩⟩)
theorem DH {k p v : Int32} (f x d : Int32) (hf : 0 ≤ f.toInt ∧ f.toInt ≤ 6) (hk : 0 ≤ k.toInt ∧ k.toInt ≤ 6) (hc : CK h0 k p v) (hd0 : 0 ≤ d.toInt) (hd : d.toInt ≤ 36) (hl : l.length + 5 ≤ 20) (hp : AP 51 4 52 h0 l h) (hQ : ∀ h', AP 51 4 52 h0 (l ++ lHL f k) h' → Q (some (.int (aHA f k p v x))) h') : Ends X 5 2 0 [.ref 51, .int 1, .int f, .int x, .int d, .retAddr 0, .retAddr 0, .retAddr 0, .retAddr 0] [] h Q := by
  rcases kcases hf.1 hf.2 with rfl | rfl | rfl | rfl | rfl | rfl | rfl
  · exact Ends.dpl (by decide) (D11 0 x d (fun h Q hs hq => w_own10 hs hq) hk hc hd0 (by omega) (by omega) hp (fun h1 q1 => hQ h1 q1))
  · exact Ends.dpl (by decide) (D20 1 x d (fun h Q hs hq => w_own11 hs hq) hk hc hd0 (by omega) (by omega) hp (fun h1 q1 => hQ h1 q1))
  · exact Ends.dpl (by decide) (D11 2 x d (fun h Q hs hq => w_own12 hs hq) hk hc hd0 (by omega) (by omega) hp (fun h1 q1 => hQ h1 q1))
  · exact Ends.dpl (by decide) (D11 3 x d (fun h Q hs hq => w_own13 hs hq) hk hc hd0 (by omega) (by omega) hp (fun h1 q1 => hQ h1 q1))
  · exact Ends.dpl (by decide) (D51 4 x d (fun h Q hs hq => w_own14 hs hq) hk hc hd0 (by omega) (by omega) hp (fun h1 q1 => hQ h1 q1))
  · exact Ends.dpl (by decide) (D11 5 x d (fun h Q hs hq => w_own15 hs hq) hk hc hd0 (by omega) (by omega) hp (fun h1 q1 => hQ h1 q1))
  · exact Ends.dpl (by decide) (D70 6 x d (fun h Q hs hq => w_own16 hs hq) hk hc hd0 (by omega) (by omega) hp (fun h1 q1 => hQ h1 q1))
theorem D12 {k p v : Int32} (f x d : Int32) (own : ∀ (h : Hp) (Q : Option Value → Hp → Prop), HS h → Q (some (.int 0)) h → Ends X 5 3 0 [.int 2, .int f, .retAddr 0, .retAddr 0] [] h Q) (hk : 0 ≤ k.toInt ∧ k.toInt ≤ 6) (hc : CK h0 k p v) (hd0 : 0 ≤ d.toInt) (hd : d.toInt ≤ 35) (hl : l.length + 6 ≤ 20) (hp : AP 51 4 52 h0 l h) (hQ : ∀ h', AP 51 4 52 h0 (l ++ lT1 k) h' → Q (some (.int (aT1 k p v x))) h') : Ends X 6 2 0 [.ref 51, .int 2, .int f, .int x, .int d, .retAddr 0, .retAddr 0, .retAddr 0, .retAddr 0] [] h Q := by
  have ds := dsuc hd0 hd (by decide)
  refine w_does (dp := 5) 2 f x d hp.1.hs (own h _ hp.1.hs ⟨0, rfl, hp.1.hs, fun e => absurd e (by decide), fun _ => ⟨fun e => absurd e (by decide), fun _ => ⟨fun _ => ⟨by decide, by decide, cbeg_ok 12 (by decide) hp (by omega) (fun h9 q9 => ⟨rfl, q9.1.hs, fun e => absurd e (by decide), fun e => absurd e (by decide), fun e => absurd e (by decide), fun _ => (by rw [(CK_at hc q9).2.1]; exact DH k x (d + 1) hk hk hc ds.1 (by omega) (by rw [List.length_append, List.length_singleton]; omega) q9 (fun h1 q1 => ⟨_, rfl, q1.1.hs, hQ _ (by unfold lT1; simpa using q1)⟩)), fun e => absurd e (by decide), fun e => absurd e (by decide), fun e => absurd e (by decide), fun e => absurd e (by decide), fun e => absurd e (by decide), fun e => absurd e (by decide), fun e => absurd e (by decide), fun e => absurd e (by decide)⟩)⟩, fun e => (d40 (by omega) e).elim⟩⟩⟩)
theorem D40 {k p v : Int32} (f x d : Int32) (own : ∀ (h : Hp) (Q : Option Value → Hp → Prop), HS h → Q (some (.int 3)) h → Ends X 6 3 0 [.int 2, .int f, .retAddr 0, .retAddr 0] [] h Q) (hk : 0 ≤ k.toInt ∧ k.toInt ≤ 6) (hc : CK h0 k p v) (hd0 : 0 ≤ d.toInt) (hd : d.toInt ≤ 34) (hl : l.length + 12 ≤ 20) (hp : AP 51 4 52 h0 l h) (hQ : ∀ h', AP 51 4 52 h0 (l ++ (40 :: (lT1 k ++ lHL k k))) h' → Q (some (.int (aT1 k p v x + aHA k k p v 1))) h') : Ends X 7 2 0 [.ref 51, .int 2, .int f, .int x, .int d, .retAddr 0, .retAddr 0, .retAddr 0, .retAddr 0] [] h Q := by
  have ds := dsuc hd0 hd (by decide)
  have hl3 := lT1_len (k := k)
  refine w_does (dp := 6) 2 f x d hp.1.hs (own h _ hp.1.hs ⟨3, rfl, hp.1.hs, fun e => absurd e (by decide), fun _ => ⟨fun e => absurd e (by decide), fun _ => ⟨fun _ => ⟨by decide, by decide, cbeg_ok 40 (by decide) hp (by omega) (fun h9 q9 => ⟨rfl, q9.1.hs, fun e => absurd e (by decide), fun e => absurd e (by decide), fun e => absurd e (by decide), fun e => absurd e (by decide), fun e => absurd e (by decide), fun e => absurd e (by decide), fun _ => (by rw [show aboveL.getD (3 : Int32).toNatClampNeg 0 = 0 from by decide]; exact D12 0 x (d + 1) (fun h Q hs hq => w_own20 hs hq) hk hc ds.1 (by omega) (by rw [List.length_append, List.length_singleton]; omega) q9 (fun h1 q1 => ⟨_, rfl, q1.1.hs, by rw [(CK_at hc q1).2.1]; exact Ends.dpl (by decide) (DH k 1 (d + 1) hk hk hc ds.1 (by omega) (by rw [List.length_append, List.length_append, List.length_singleton]; omega) q1 (fun h2 q2 => ⟨_, rfl, q2.1.hs, hQ _ (by simpa using q2)⟩))⟩)), fun e => absurd e (by decide), fun e => absurd e (by decide), fun e => absurd e (by decide), fun e => absurd e (by decide), fun e => absurd e (by decide)⟩)⟩, fun e => (d40 (by omega) e).elim⟩⟩⟩)
theorem D60 {k p v : Int32} (f x d : Int32) (own : ∀ (h : Hp) (Q : Option Value → Hp → Prop), HS h → Q (some (.int 5)) h → Ends X 6 3 0 [.int 2, .int f, .retAddr 0, .retAddr 0] [] h Q) (hk : 0 ≤ k.toInt ∧ k.toInt ≤ 6) (hc : CK h0 k p v) (hd0 : 0 ≤ d.toInt) (hd : d.toInt ≤ 34) (hl : l.length + 7 ≤ 20) (hp : AP 51 4 52 h0 l h) (hQ : ∀ h', AP 51 4 52 h0 (l ++ (60 :: lT1 k)) h' → Q (some (.int (aT1 k p v (x - p)))) h') : Ends X 7 2 0 [.ref 51, .int 2, .int f, .int x, .int d, .retAddr 0, .retAddr 0, .retAddr 0, .retAddr 0] [] h Q := by
  have ds := dsuc hd0 hd (by decide)
  refine w_does (dp := 6) 2 f x d hp.1.hs (own h _ hp.1.hs ⟨5, rfl, hp.1.hs, fun e => absurd e (by decide), fun _ => ⟨fun e => absurd e (by decide), fun _ => ⟨fun _ => ⟨by decide, by decide, cbeg_ok 60 (by decide) hp (by omega) (fun h9 q9 => ⟨rfl, q9.1.hs, fun e => absurd e (by decide), fun e => absurd e (by decide), fun e => absurd e (by decide), fun e => absurd e (by decide), fun e => absurd e (by decide), fun e => absurd e (by decide), fun e => absurd e (by decide), fun e => absurd e (by decide), fun e => absurd e (by decide), fun _ => (by rw [show aboveL.getD (5 : Int32).toNatClampNeg 0 = 2 from by decide]; exact (by rw [(CK_at hc q9).1]; exact D12 2 (x - p) (d + 1) (fun h Q hs hq => w_own22 hs hq) hk hc ds.1 (by omega) (by rw [List.length_append, List.length_singleton]; omega) q9 (fun h1 q1 => ⟨_, rfl, q1.1.hs, hQ _ (by simpa using q1)⟩))), fun e => absurd e (by decide), fun e => absurd e (by decide)⟩)⟩, fun e => (d40 (by omega) e).elim⟩⟩⟩)
theorem DT {k p v : Int32} (f x d : Int32) (hf : 0 ≤ f.toInt ∧ f.toInt ≤ 6) (hk : 0 ≤ k.toInt ∧ k.toInt ≤ 6) (hc : CK h0 k p v) (hd0 : 0 ≤ d.toInt) (hd : d.toInt ≤ 34) (hl : l.length + 12 ≤ 20) (hp : AP 51 4 52 h0 l h) (hQ : ∀ h', AP 51 4 52 h0 (l ++ lTL f k) h' → Q (some (.int (aTA f k p v x))) h') : Ends X 7 2 0 [.ref 51, .int 2, .int f, .int x, .int d, .retAddr 0, .retAddr 0, .retAddr 0, .retAddr 0] [] h Q := by
  rcases kcases hf.1 hf.2 with rfl | rfl | rfl | rfl | rfl | rfl | rfl
  · exact Ends.dpl (by decide) (D12 0 x d (fun h Q hs hq => w_own20 hs hq) hk hc hd0 (by omega) (by omega) hp (fun h1 q1 => hQ h1 q1))
  · exact Ends.dpl (by decide) (D12 1 x d (fun h Q hs hq => w_own21 hs hq) hk hc hd0 (by omega) (by omega) hp (fun h1 q1 => hQ h1 q1))
  · exact Ends.dpl (by decide) (D12 2 x d (fun h Q hs hq => w_own22 hs hq) hk hc hd0 (by omega) (by omega) hp (fun h1 q1 => hQ h1 q1))
  · exact Ends.dpl (by decide) (D40 3 x d (fun h Q hs hq => w_own23 hs hq) hk hc hd0 (by omega) (by omega) hp (fun h1 q1 => hQ h1 q1))
  · exact Ends.dpl (by decide) (D12 4 x d (fun h Q hs hq => w_own24 hs hq) hk hc hd0 (by omega) (by omega) hp (fun h1 q1 => hQ h1 q1))
  · exact Ends.dpl (by decide) (D60 5 x d (fun h Q hs hq => w_own25 hs hq) hk hc hd0 (by omega) (by omega) hp (fun h1 q1 => hQ h1 q1))
  · exact Ends.dpl (by decide) (D40 6 x d (fun h Q hs hq => w_own26 hs hq) hk hc hd0 (by omega) (by omega) hp (fun h1 q1 => hQ h1 q1))
theorem MK_at {a k : Nat} (ha : AP 93 58 122 h0 l h) (hw : inW [(93, 58), (122, 999)] a k = false) : h.2.1 a k = h0.2.1 a k := frI ha.2.1 hw
theorem m94 {k : Nat} : inW [(93, 58), (122, 999)] 94 k = false := by simp [inW]
theorem m95 {k : Nat} : inW [(93, 58), (122, 999)] 95 k = false := by simp [inW]
variable (p x : Int32) (hp0 : 0 ≤ p.toInt ∧ p.toInt < 7)

theorem rr_ok {k v : Int32} (p x : Int32) (hp0 : 0 ≤ p.toInt ∧ p.toInt < 7) (hk : 0 ≤ k.toInt ∧ k.toInt ≤ 6) (ek : h0.2.1 94 p.toNatClampNeg = k) (ev : h0.2.1 95 p.toNatClampNeg = v) (hl : l.length + 1 ≤ 20) (hp : AP 93 58 122 h0 l h) (hQ : ∀ h', AP 93 58 122 h0 (l ++ [10]) h' → Q (some (.int (x + p))) h') : Ends X 1 187 0 [.ref 93, .int p, .int x] [] h Q := by
  have ib : inB p 7 = true := inB_iff (by omega) (by omega)
  exact w_rr (dp := 0) p x hp.1.hs (mbod_ok 10 hp (by omega) (fun h9 q9 => ⟨rfl, q9.1.hs, hQ h9 q9⟩))
theorem ra_ok {k v : Int32} (p x : Int32) (hp0 : 0 ≤ p.toInt ∧ p.toInt < 7) (hk : 0 ≤ k.toInt ∧ k.toInt ≤ 6) (ek : h0.2.1 94 p.toNatClampNeg = k) (ev : h0.2.1 95 p.toNatClampNeg = v) (hl : l.length + 2 ≤ 20) (hp : AP 93 58 122 h0 l h) (hQ : ∀ h', AP 93 58 122 h0 (l ++ lRL k) h' → Q (some (.int (aRA k p v x))) h') : Ends X 2 188 0 [.ref 93, .int p, .int x] [] h Q := by
  have ib : inB p 7 = true := inB_iff (by omega) (by omega)
  have e94 : h.2.1 94 p.toNatClampNeg = k := (MK_at hp m94).trans ek
  refine w_ra (dp := 1) p x hp.1.hs ⟨ib, ?_⟩
  rw [e94]
  rcases kcases hk.1 hk.2 with rfl | rfl | rfl | rfl | rfl | rfl | rfl
  · exact ⟨fun _ => rr_ok p x hp0 hk ek ev (by omega) hp (fun h1 q1 => ⟨_, rfl, q1.1.hs, hQ h1 q1⟩), fun e => absurd e (by decide), fun e => absurd e (by decide), fun e => absurd e (by decide), fun e => absurd e (by decide), fun e => absurd e (by decide)⟩
  · exact ⟨fun _ => rr_ok p x hp0 hk ek ev (by omega) hp (fun h1 q1 => ⟨_, rfl, q1.1.hs, hQ h1 q1⟩), fun e => absurd e (by decide), fun e => absurd e (by decide), fun e => absurd e (by decide), fun e => absurd e (by decide), fun e => absurd e (by decide)⟩
  · exact ⟨fun e => absurd e (by decide), fun _ => mbod_ok 30 hp (by omega) (fun h9 q9 => ⟨rfl, q9.1.hs, rr_ok p (x * 3) hp0 hk ek ev (by rw [List.length_append, List.length_singleton]; omega) q9 (fun h1 q1 => ⟨_, rfl, q1.1.hs, hQ _ (by simpa [lRL, lHL, lTL] using q1)⟩)⟩), fun e => absurd e (by decide), fun e => absurd e (by decide), fun e => absurd e (by decide), fun e => absurd e (by decide)⟩
  · exact ⟨fun e => absurd e (by decide), fun e => absurd e (by decide), fun _ => rr_ok p x hp0 hk ek ev (by omega) hp (fun h1 q1 => ⟨_, rfl, q1.1.hs, hQ h1 q1⟩), fun e => absurd e (by decide), fun e => absurd e (by decide), fun e => absurd e (by decide)⟩
  · exact ⟨fun e => absurd e (by decide), fun e => absurd e (by decide), fun e => absurd e (by decide), fun _ => mbod_ok 50 hp (by omega) (fun h9 q9 => ⟨rfl, q9.1.hs, rr_ok p x hp0 hk ek ev (by rw [List.length_append, List.length_singleton]; omega) q9 (fun h1 q1 => ⟨_, rfl, q1.1.hs, hQ _ (by simpa [lRL, lHL, lTL] using q1)⟩)⟩), fun e => absurd e (by decide), fun e => absurd e (by decide)⟩
  · exact ⟨fun e => absurd e (by decide), fun e => absurd e (by decide), fun e => absurd e (by decide), fun e => absurd e (by decide), fun _ => mbod_ok 30 hp (by omega) (fun h9 q9 => ⟨rfl, q9.1.hs, rr_ok p (x * 3) hp0 hk ek ev (by rw [List.length_append, List.length_singleton]; omega) q9 (fun h1 q1 => ⟨_, rfl, q1.1.hs, hQ _ (by simpa [lRL, lHL, lTL] using q1)⟩)⟩), fun e => absurd e (by decide)⟩
  · exact ⟨fun e => absurd e (by decide), fun e => absurd e (by decide), fun e => absurd e (by decide), fun e => absurd e (by decide), fun e => absurd e (by decide), fun _ => mbod_ok 71 hp (by omega) (fun h9 q9 => ⟨rfl, q9.1.hs, rr_ok p x hp0 hk ek ev (by rw [List.length_append, List.length_singleton]; omega) q9 (fun h1 q1 => ⟨_, rfl, q1.1.hs, ib, by rw [MK_at q1 m95, ev]; exact hQ _ (by simpa [lRL, lHL, lTL] using q1)⟩)⟩)⟩
theorem rh_ok {k v : Int32} (p x : Int32) (hp0 : 0 ≤ p.toInt ∧ p.toInt < 7) (hk : 0 ≤ k.toInt ∧ k.toInt ≤ 6) (ek : h0.2.1 94 p.toNatClampNeg = k) (ev : h0.2.1 95 p.toNatClampNeg = v) (hl : l.length + 3 ≤ 20) (hp : AP 93 58 122 h0 l h) (hQ : ∀ h', AP 93 58 122 h0 (l ++ lH1 k) h' → Q (some (.int (aH1 k p v x))) h') : Ends X 3 189 0 [.ref 93, .int p, .int x] [] h Q := by
  have ib : inB p 7 = true := inB_iff (by omega) (by omega)
  exact w_rh (dp := 2) p x hp.1.hs (mbod_ok 11 hp (by omega) (fun h9 q9 => ⟨rfl, q9.1.hs, ra_ok p x hp0 hk ek ev (by rw [List.length_append, List.length_singleton]; omega) q9 (fun h1 q1 => ⟨_, rfl, q1.1.hs, ib, by rw [MK_at q1 m95, ev]; exact hQ _ (by unfold lH1; simpa using q1)⟩)⟩))
theorem eh_ok {k v : Int32} (p x : Int32) (hp0 : 0 ≤ p.toInt ∧ p.toInt < 7) (hk : 0 ≤ k.toInt ∧ k.toInt ≤ 6) (ek : h0.2.1 94 p.toNatClampNeg = k) (ev : h0.2.1 95 p.toNatClampNeg = v) (hl : l.length + 4 ≤ 20) (hp : AP 93 58 122 h0 l h) (hQ : ∀ h', AP 93 58 122 h0 (l ++ (20 :: lH1 k)) h' → Q (some (.int (aH1 k p v x ^^^ 6))) h') : Ends X 4 190 0 [.ref 93, .int p, .int x] [] h Q := by
  have ib : inB p 7 = true := inB_iff (by omega) (by omega)
  exact w_eh (dp := 3) p x hp.1.hs (mbod_ok 20 hp (by omega) (fun h9 q9 => ⟨rfl, q9.1.hs, rh_ok p x hp0 hk ek ev (by rw [List.length_append, List.length_singleton]; omega) q9 (fun h1 q1 => ⟨_, rfl, q1.1.hs, hQ _ (by simpa [lRL, lHL, lTL] using q1)⟩)⟩))
theorem ha_ok {k v : Int32} (p x : Int32) (hp0 : 0 ≤ p.toInt ∧ p.toInt < 7) (hk : 0 ≤ k.toInt ∧ k.toInt ≤ 6) (ek : h0.2.1 94 p.toNatClampNeg = k) (ev : h0.2.1 95 p.toNatClampNeg = v) (hl : l.length + 5 ≤ 20) (hp : AP 93 58 122 h0 l h) (hQ : ∀ h', AP 93 58 122 h0 (l ++ lHL k k) h' → Q (some (.int (aHA k k p v x))) h') : Ends X 5 191 0 [.ref 93, .int p, .int x, .retAddr 0] [] h Q := by
  have ib : inB p 7 = true := inB_iff (by omega) (by omega)
  have hl3 := lH1_len (k := k)
  have e94 : h.2.1 94 p.toNatClampNeg = k := (MK_at hp m94).trans ek
  refine w_ha (dp := 4) p x hp.1.hs ⟨ib, ?_⟩
  rw [e94]
  rcases kcases hk.1 hk.2 with rfl | rfl | rfl | rfl | rfl | rfl | rfl
  · exact ⟨fun _ => Ends.dpl (by decide) (rh_ok p x hp0 hk ek ev (by omega) hp (fun h1 q1 => ⟨_, rfl, q1.1.hs, hQ h1 q1⟩)), fun e => absurd e (by decide), fun e => absurd e (by decide), fun e => absurd e (by decide)⟩
  · exact ⟨fun e => absurd e (by decide), fun _ => eh_ok p x hp0 hk ek ev (by omega) hp (fun h1 q1 => ⟨_, rfl, q1.1.hs, hQ h1 q1⟩), fun e => absurd e (by decide), fun e => absurd e (by decide)⟩
  · exact ⟨fun _ => Ends.dpl (by decide) (rh_ok p x hp0 hk ek ev (by omega) hp (fun h1 q1 => ⟨_, rfl, q1.1.hs, hQ h1 q1⟩)), fun e => absurd e (by decide), fun e => absurd e (by decide), fun e => absurd e (by decide)⟩
  · exact ⟨fun _ => Ends.dpl (by decide) (rh_ok p x hp0 hk ek ev (by omega) hp (fun h1 q1 => ⟨_, rfl, q1.1.hs, hQ h1 q1⟩)), fun e => absurd e (by decide), fun e => absurd e (by decide), fun e => absurd e (by decide)⟩
  · exact ⟨fun e => absurd e (by decide), fun e => absurd e (by decide), fun _ => mbod_ok 51 hp (by omega) (fun h9 q9 => ⟨rfl, q9.1.hs, eh_ok p (x + 1) hp0 hk ek ev (by rw [List.length_append, List.length_singleton]; omega) q9 (fun h1 q1 => ⟨_, rfl, q1.1.hs, hQ _ (by simpa [lRL, lHL, lTL] using q1)⟩)⟩), fun e => absurd e (by decide)⟩
  · exact ⟨fun _ => Ends.dpl (by decide) (rh_ok p x hp0 hk ek ev (by omega) hp (fun h1 q1 => ⟨_, rfl, q1.1.hs, hQ h1 q1⟩)), fun e => absurd e (by decide), fun e => absurd e (by decide), fun e => absurd e (by decide)⟩
  · exact ⟨fun e => absurd e (by decide), fun e => absurd e (by decide), fun e => absurd e (by decide), fun _ => mbod_ok 70 hp (by omega) (fun h9 q9 => ⟨rfl, q9.1.hs, Ends.dpl (by decide) (rh_ok p x hp0 hk ek ev (by rw [List.length_append, List.length_singleton]; omega) q9 (fun h1 q1 => ⟨_, rfl, q1.1.hs, Ends.dpl (by decide) (rr_ok p 2 hp0 hk ek ev (by rw [List.length_append, List.length_append, List.length_singleton]; omega) q1 (fun h2 q2 => ⟨_, rfl, q2.1.hs, hQ _ (by simpa [lRL, lHL, lTL] using q2)⟩))⟩))⟩)⟩
theorem rt_ok {k v : Int32} (p x : Int32) (hp0 : 0 ≤ p.toInt ∧ p.toInt < 7) (hk : 0 ≤ k.toInt ∧ k.toInt ≤ 6) (ek : h0.2.1 94 p.toNatClampNeg = k) (ev : h0.2.1 95 p.toNatClampNeg = v) (hl : l.length + 6 ≤ 20) (hp : AP 93 58 122 h0 l h) (hQ : ∀ h', AP 93 58 122 h0 (l ++ lT1 k) h' → Q (some (.int (aT1 k p v x))) h') : Ends X 6 192 0 [.ref 93, .int p, .int x] [] h Q := by
  have ib : inB p 7 = true := inB_iff (by omega) (by omega)
  exact w_rt (dp := 5) p x hp.1.hs (mbod_ok 12 hp (by omega) (fun h9 q9 => ⟨rfl, q9.1.hs, ha_ok p x hp0 hk ek ev (by rw [List.length_append, List.length_singleton]; omega) q9 (fun h1 q1 => ⟨_, rfl, q1.1.hs, hQ _ (by unfold lT1; simpa using q1)⟩)⟩))
theorem ta_ok {k v : Int32} (p x : Int32) (hp0 : 0 ≤ p.toInt ∧ p.toInt < 7) (hk : 0 ≤ k.toInt ∧ k.toInt ≤ 6) (ek : h0.2.1 94 p.toNatClampNeg = k) (ev : h0.2.1 95 p.toNatClampNeg = v) (hl : l.length + 12 ≤ 20) (hp : AP 93 58 122 h0 l h) (hQ : ∀ h', AP 93 58 122 h0 (l ++ lTL k k) h' → Q (some (.int (aTA k k p v x))) h') : Ends X 7 193 0 [.ref 93, .int p, .int x, .retAddr 0] [] h Q := by
  have ib : inB p 7 = true := inB_iff (by omega) (by omega)
  have hl3 := lT1_len (k := k)
  have e94 : h.2.1 94 p.toNatClampNeg = k := (MK_at hp m94).trans ek
  refine w_ta (dp := 6) p x hp.1.hs ⟨ib, ?_⟩
  rw [e94]
  rcases kcases hk.1 hk.2 with rfl | rfl | rfl | rfl | rfl | rfl | rfl
  · exact ⟨fun _ => rt_ok p x hp0 hk ek ev (by omega) hp (fun h1 q1 => ⟨_, rfl, q1.1.hs, hQ h1 q1⟩), fun e => absurd e (by decide), fun e => absurd e (by decide), fun e => absurd e (by decide), fun e => absurd e (by decide)⟩
  · exact ⟨fun _ => rt_ok p x hp0 hk ek ev (by omega) hp (fun h1 q1 => ⟨_, rfl, q1.1.hs, hQ h1 q1⟩), fun e => absurd e (by decide), fun e => absurd e (by decide), fun e => absurd e (by decide), fun e => absurd e (by decide)⟩
  · exact ⟨fun _ => rt_ok p x hp0 hk ek ev (by omega) hp (fun h1 q1 => ⟨_, rfl, q1.1.hs, hQ h1 q1⟩), fun e => absurd e (by decide), fun e => absurd e (by decide), fun e => absurd e (by decide), fun e => absurd e (by decide)⟩
  · exact ⟨fun e => absurd e (by decide), fun _ => mbod_ok 40 hp (by omega) (fun h9 q9 => ⟨rfl, q9.1.hs, rt_ok p x hp0 hk ek ev (by rw [List.length_append, List.length_singleton]; omega) q9 (fun h1 q1 => ⟨_, rfl, q1.1.hs, Ends.dpl (by decide) (ha_ok p 1 hp0 hk ek ev (by rw [List.length_append, List.length_append, List.length_singleton]; omega) q1 (fun h2 q2 => ⟨_, rfl, q2.1.hs, hQ _ (by simpa [lRL, lHL, lTL] using q2)⟩))⟩)⟩), fun e => absurd e (by decide), fun e => absurd e (by decide), fun e => absurd e (by decide)⟩
  · exact ⟨fun e => absurd e (by decide), fun e => absurd e (by decide), fun _ => rt_ok p x hp0 hk ek ev (by omega) hp (fun h1 q1 => ⟨_, rfl, q1.1.hs, hQ h1 q1⟩), fun e => absurd e (by decide), fun e => absurd e (by decide)⟩
  · exact ⟨fun e => absurd e (by decide), fun e => absurd e (by decide), fun e => absurd e (by decide), fun _ => mbod_ok 60 hp (by omega) (fun h9 q9 => ⟨rfl, q9.1.hs, rt_ok p (x - p) hp0 hk ek ev (by rw [List.length_append, List.length_singleton]; omega) q9 (fun h1 q1 => ⟨_, rfl, q1.1.hs, hQ _ (by simpa [lRL, lHL, lTL] using q1)⟩)⟩), fun e => absurd e (by decide)⟩
  · exact ⟨fun e => absurd e (by decide), fun e => absurd e (by decide), fun e => absurd e (by decide), fun e => absurd e (by decide), fun _ => mbod_ok 40 hp (by omega) (fun h9 q9 => ⟨rfl, q9.1.hs, rt_ok p x hp0 hk ek ev (by rw [List.length_append, List.length_singleton]; omega) q9 (fun h1 q1 => ⟨_, rfl, q1.1.hs, Ends.dpl (by decide) (ha_ok p 1 hp0 hk ek ev (by rw [List.length_append, List.length_append, List.length_singleton]; omega) q1 (fun h2 q2 => ⟨_, rfl, q2.1.hs, hQ _ (by simpa [lRL, lHL, lTL] using q2)⟩))⟩)⟩)⟩
end ACTS
