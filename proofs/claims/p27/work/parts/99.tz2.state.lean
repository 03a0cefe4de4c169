/-! How things are, on both sides; what is asked anew. -/
def zR (N : Nat) (K : Nat → Bool) : Nat → Bool := fun p => decide (p < N) && !K p
def WTQ : List (Nat × Nat) := [(17, 999), (18, 999), (19, 999), (20, 999), (21, 999), (22, 999), (23, 999), (24, 999), (25, 999), (31, 999), (32, 999), (33, 999), (34, 999), (35, 999), (36, 999), (37, 999)]
theorem WTQ_n {a k : Nat} (h1 : a < 17 ∨ 37 < a ∨ (25 < a ∧ a < 31)) : inW WTQ a k = false := by
  cases c : inW WTQ a k with
  | false => rfl
  | true =>
    simp only [inW, WTQ, List.any_cons, List.any_nil, Bool.or_false, Bool.or_eq_true, Bool.and_eq_true, beq_iff_eq] at c
    omega
theorem WCX_T {h h' : Hp} (hf : frm WCX h h') : frm WTQ h h' := frm_sub (V := WCX) (by decide) hf
/-- the class's people now are S, and the yard that holds -/
def AST (q : Nat) (S : Nat → Nat → Int) (Y : Int) (cs : List Cl) (m : List Int) (N : Nat) (K : Nat → Bool) (h : Hp) : Prop := YB q ∧ (∀ p, p < 7 → (h.2.1 2 p).toInt = S 0 p ∧ (h.2.1 3 p).toInt = S 1 p ∧ (h.2.1 4 p).toInt = S 2 p ∧ (h.2.1 5 p).toInt = S 3 p ∧ (h.2.1 6 p).toInt = S 4 p) ∧ (∀ i, i < 28 → (h.2.1 7 i).toInt = S 5 i) ∧ (h.2.1 1 8).toInt = Y ∧ (h.2.1 1 0).toInt = N ∧ BSET (h.2.1 1 7) K ∧ RY q h cs m ∧ (((h.2.1 1 12).toInt < 0 ∧ q = 39) ∨ ∃ f : Nat, (h.2.1 1 12).toInt = f ∧ f < 6 ∧ h.2.2.2 38 f = some q)
theorem AST.fr {q : Nat} {S : Nat → Nat → Int} {Y : Int} {cs : List Cl} {m : List Int} {N : Nat} {K : Nat → Bool} {h h' : Hp} (ha : AST q S Y cs m N K h) (hf : frm WTQ h h') : AST q S Y cs m N K h' := by
  obtain ⟨hY, a1, a2, a3, a4, a5, a6, a7⟩ := ha
  have r := yb_rng hY
  have f : ∀ a k, (a < 17 ∨ 37 < a) → h'.2.1 a k = h.2.1 a k := fun a k h1 => frI hf (WTQ_n (by omega))
  refine ⟨hY, fun p hp => ?_, fun i hi => ?_, ?_, ?_, ?_, ?_, ?_⟩
  · rw [f 2 p (by omega), f 3 p (by omega), f 4 p (by omega), f 5 p (by omega), f 6 p (by omega)]
    exact a1 p hp
  · rw [f 7 i (by omega)]
    exact a2 i hi
  · rw [f 1 8 (by omega)]; exact a3
  · rw [f 1 0 (by omega)]; exact a4
  · rw [f 1 7 (by omega)]; exact a5
  · obtain ⟨r1, r2, r3⟩ := a6
    refine ⟨by rw [f q 0 (by omega)]; exact r1, fun c hc => ?_, fun j hj => by rw [f (q + 4) j (by omega)]; exact r3 j hj⟩
    rw [f (q + 1) c (by omega), f (q + 2) c (by omega), f (q + 3) c (by omega)]
    exact r2 c hc
  · rw [f 1 12 (by omega)]
    rcases a7 with c | ⟨g, g1, g2, g3⟩
    · exact Or.inl c
    · refine Or.inr ⟨g, g1, g2, ?_⟩
      rw [(hf 38 g (WTQ_n (by omega))).2.2]
      exact g3
theorem bec_f7 {h : Hp} {a b : Nat} : (bec h a b).2.1 a 7 = h.2.1 b 7 := by
  unfold bec
  rw [put_ne (by omega), put_ne (by omega), hpM_ne (by omega), put_ne (by omega), put_ne (by omega), put_at]
theorem bec_f8 {h : Hp} {a b : Nat} : (bec h a b).2.1 a 8 = h.2.1 b 8 := by
  unfold bec
  rw [put_ne (by omega), put_ne (by omega), hpM_ne (by omega), put_ne (by omega), put_at]
/-- behind asksAnew -/
def askH (h : Hp) (q : Nat) : Hp := hpI (hpI (hpI (hpI (hpY (bec h 18 1) q) 17 9 0) 17 12 0) 17 13 (-1)) 17 15 (-1)
theorem askH_ne {h : Hp} {q a k : Nat} (hn : a ≠ 17) : (askH h q).2.1 a k = (bec h 18 1).2.1 a k := by
  unfold askH
  rw [put_ne (by omega), put_ne (by omega), put_ne (by omega), put_ne (by omega)]
  rfl
theorem zsnt_t {W : Nat → Int} {one t t' : Int} (ho : one < 0) : zsnt W one t = zsnt W one t' := by
  funext x
  unfold zsnt
  rw [if_neg (by omega), if_neg (by omega)]
theorem zW_t {S : Nat → Nat → Int} {Y : Int} {cs : List Cl} {m : List Int} {K R : Nat → Bool} {hd : Bool} {one t t' fo le : Int} (ho : one < 0) : zW S Y cs m K R hd one t fo le = zW S Y cs m K R hd one t' fo le := by
  unfold zW
  rw [zsnt_t ho]
theorem zcau_t {S : Nat → Nat → Int} {Y : Int} {cs : List Cl} {m : List Int} {K R : Nat → Bool} {hd : Bool} {one t t' fo le : Int} (ho : one < 0) : zcau S Y cs m K R hd one t fo le = zcau S Y cs m K R hd one t' fo le := by
  unfold zcau
  rw [zW_t ho]
/-- the copy, as asked anew -/
def NCS (q : Nat) (S : Nat → Nat → Int) (Y : Int) (cs : List Cl) (m : List Int) (N : Nat) (K : Nat → Bool) (h : Hp) : Prop := CG h S Y ∧ YR q h cs m ∧ (h.2.1 18 0).toInt = N ∧ BSET (h.2.1 18 7) K ∧ h.2.1 17 9 = 0 ∧ h.2.1 17 12 = 0 ∧ (h.2.1 17 13).toInt = -1 ∧ (h.2.1 17 15).toInt = -1
theorem NCS.fr {q : Nat} (hY : YB q) {S : Nat → Nat → Int} {Y : Int} {cs : List Cl} {m : List Int} {N : Nat} {K : Nat → Bool} {h h' : Hp} (hc : NCS q S Y cs m N K h) (hf : frm WCX h h') : NCS q S Y cs m N K h' := by
  obtain ⟨a1, a2, a3, a4, a5, a6, a7, a8⟩ := hc
  exact ⟨a1.fr hf, a2.fr hY hf, by rw [frI hf (a := 18) rfl]; exact a3, by rw [frI hf (a := 18) rfl]; exact a4, by rw [frI hf (a := 17) rfl]; exact a5, by rw [frI hf (a := 17) rfl]; exact a6, by rw [frI hf (a := 17) rfl]; exact a7, by rw [frI hf (a := 17) rfl]; exact a8⟩
theorem NCS.d {q : Nat} {S : Nat → Nat → Int} {Y : Int} {cs : List Cl} {m : List Int} {N : Nat} {K : Nat → Bool} {h : Hp} (hc : NCS q S Y cs m N K h) : DCS q S Y cs m N K (zR N K) false (-1) (h.2.1 17 14).toInt (-1) 0 h := by
  obtain ⟨a1, a2, a3, a4, a5, a6, a7, a8⟩ := hc
  exact ⟨a1, a2, a3, ⟨K, fun _ => false, a4, by rw [a5]; exact BSET.zero, fun p _ => by rw [Bool.not_false, Bool.and_true], fun p _ => by rw [Bool.not_false, Bool.and_true]; rfl⟩, a6, a7, rfl, a8, fun z => absurd z (by decide)⟩
/-- who is caught, as all is -/
def zC (S : Nat → Nat → Int) (Y : Int) (cs : List Cl) (m : List Int) (N : Nat) (K : Nat → Bool) : Nat → Bool := zcau S Y cs m K (zR N K) false (-1) 0 (-1) 0
section ASK
variable {X : Scr} {Q : Option Value → Hp → Prop} {q : Nat} {S : Nat → Nat → Int} {Y : Int} {cs : List Cl} {m : List Int} {N : Nat} {K : Nat → Bool} {h : Hp}
theorem ask_x {dp : Nat} (ha : AST q S Y cs m N K h) (hs : HS h) (hQ : Q none (askH h q)) : Ends X (dp + 1 + 1) 100 0 [.ref 0, .retAddr 0] [] h Q := by
  obtain ⟨hY, a1, a2, a3, a4, a5, a6, a7⟩ := ha
  have z0' : (0 : Int32).toInt = 0 := rfl
  have j6 : (6 : Int32).toInt = 6 := rfl
  have hsb : HS (bec h 18 1) := bec_hs hs
  refine w_casks hs ⟨fun e => ?_, fun e => ⟨fun e2 => ?_, fun e2 => ?_⟩⟩
  · have e : (h.2.1 1 12).toInt < (0 : Int32).toInt := of_decide_eq_true (cJ e)
    have q39 : q = 39 := by
      rcases a7 with c | ⟨g, g1, g2, g3⟩
      · exact c.2
      · omega
    subst q39
    exact w_cstt hY hs (w_bec181 hs ⟨rfl, hsb, rfl, hs_Y hY hsb, hQ⟩)
  · exfalso
    have e : ¬ (h.2.1 1 12).toInt < (0 : Int32).toInt := of_decide_eq_false (cJ e)
    have e2 : (6 : Int32).toInt ≤ (h.2.1 1 12).toInt := of_decide_eq_true (cJ e2)
    rcases a7 with c | ⟨g, g1, g2, g3⟩ <;> omega
  · have e : ¬ (h.2.1 1 12).toInt < (0 : Int32).toInt := of_decide_eq_false (cJ e)
    obtain ⟨g, g1, g2, g3⟩ := a7.resolve_left (by omega)
    have rq := yb_rng hY
    refine ⟨q, inB_iff (by omega) (by omega), ?_, by omega, w_cstt hY hs (w_bec181 hs ⟨rfl, hsb, rfl, hs_Y hY hsb, hQ⟩)⟩
    rw [show (h.2.1 1 12).toNatClampNeg = g by show (h.2.1 1 12).toInt.toNat = _; omega]
    exact g3
theorem asks_ok {dp : Nat} (ha : AST q S Y cs m N K h) (hh : HI h) (hQ : ∀ h1, HI h1 → frm WTQ h h1 → NCS q S Y cs m N K h1 → Q none h1) : Ends X (dp + 1 + 1) 100 0 [.ref 0, .retAddr 0] [] h Q := by
  have e1 := ask_x (X := X) (dp := dp) (Q := fun v h' => v = none ∧ h' = askH h q) ha hh.hs ⟨rfl, rfl⟩
  have e2 := gd1 8 (T := k_8) (by rfl) X (dp + 1 + 1) (fun _ => 0) h [.ref 0] (by show 2 ≤ dp + 1 + 1; omega) hh (fun q => by cases q) (fun v q hq => by cases hq) ⟨⟨0, rfl, List.mem_singleton.mpr rfl⟩, trivial⟩ (fun q hq => by cases hq)
  refine (e1.and e2).mono ?_
  rintro v hc ⟨⟨rfl, rfl⟩, gc, fc, -⟩
  have ft : frm WTQ h (askH h q) := frm_sub (V := cW k_8) (by decide) fc
  have ha' := ha.fr ft
  obtain ⟨hY, a1, a2, a3, a4, a5, a6, a7⟩ := ha
  refine hQ _ gc ft ⟨⟨fun p hp => ?_, fun i hi => ?_, ?_⟩, ⟨?_, ha'.2.2.2.2.2.2.1⟩, ?_, ?_, ?_, ?_, ?_, ?_⟩
  · rw [askH_ne (by decide), askH_ne (by decide), askH_ne (by decide), askH_ne (by decide), askH_ne (by decide), bec_1 (a := 18) (b := 1) (by omega) hp, bec_2 (a := 18) (b := 1) (by omega) hp, bec_3 (a := 18) (b := 1) (by omega) hp, bec_4 (a := 18) (b := 1) (by omega) hp, bec_5 (a := 18) (b := 1) (by omega) hp]
    exact a1 p hp
  · rw [askH_ne (by decide), bec_6 (a := 18) (b := 1) (by omega) hi]
    exact a2 i hi
  · rw [askH_ne (by decide), bec_f8]
    exact a3
  · show (hpY (bec h 18 1) q).2.2.2 17 1 = some q
    exact hpY_at
  · rw [askH_ne (by decide), bec_0]
    exact a4
  · rw [askH_ne (by decide), bec_f7]
    exact a5
  · unfold askH
    rw [put_ne (by omega), put_ne (by omega), put_ne (by omega), put_at]
  · unfold askH
    rw [put_ne (by omega), put_ne (by omega), put_at]
  · unfold askH
    rw [put_ne (by omega), put_at]
    rfl
  · unfold askH
    rw [put_at]
    rfl
theorem dct_ok {dp : Nat} (ha : AST q S Y cs m N K h) (hs : HS h) (pI : Int32) (p : Nat) (hp : pI.toInt = p) (h7 : p < 7) (hQ : Q (some (.int (b2i (K p)))) h) : Ends X (dp + 1) 27 0 [.ref 1, .int pI] [] h Q :=
  w_dct pI hs (isin_ok ha.2.2.2.2.2.1 hp h7 hs ⟨_, rfl, hs, b2i_01 _, hQ⟩)
theorem ncau_ok {dp : Nat} (hY : YB q) (mk : MOK S Y N) (yk : YOK cs m) (hh : HI h) (hn : NCS q S Y cs m N K h) (hQ : ∀ (r : Int32) h', HI h' → frm WCX h h' → NCS q S Y cs m N K h' → MSR S Y cs m K (zR N K) false (-1) 0 (-1) 0 h' → BSET r (zC S Y cs m N K) → Q (some (.int r)) h') : Ends X (dp + 1 + 1 + 1 + 1) 10 0 [.ref 17, .retAddr 0, .retAddr 0, .retAddr 0, .retAddr 0, .retAddr 0, .retAddr 0] [] h Q := by
  refine cau_ok hY mk.1 mk.2.1 yk mk.2.2.1 mk.2.2.2 (Or.inl rfl) hh hn.d (fun r h' g f ms hr => hQ r h' g f (hn.fr hY f) ?_ ?_)
  · unfold MSR at ms ⊢
    rw [zW_t (t := (h.2.1 17 14).toInt) (t' := 0) (by decide)] at ms
    exact ms
  · unfold zC
    rw [← zcau_t (t := (h.2.1 17 14).toInt) (by decide)]
    exact hr
theorem iv_187 : ivl 18 7 = (-2147483648, 2147483647) ∧ ivl 18 8 = (-2147483648, 2147483647) := by decide +kernel
theorem goes_ok {dp : Nat} (hY : YB q) (mk : MOK S Y N) (yk : YOK cs m) (hY9 : Y ≤ 2000) (hh : HI h) (hn : NCS q S Y cs m N K h) (hQ : ∀ (r : Int32) h', HI h' → frm WTQ h h' → NCS q S (Y + 1) cs m N (fun p => K p || zC S Y cs m N K p) h' → BSET r (zC S Y cs m N K) → Q (some (.int r)) h') : Ends X (dp + 1 + 1 + 1 + 1 + 1) 9 0 [.ref 17, .retAddr 0] [] h Q := by
  refine w_goes hh.hs (ncau_ok hY mk yk hh hn (fun r h1 g1 f1 n1 _ hr => ⟨r, rfl, g1.hs, ?_⟩))
  obtain ⟨⟨c1, c2, c3⟩, a2, a3, a4, a5, a6, a7, a8⟩ := n1
  have y0 := mk.2.2.1
  have v8 : (h1.2.1 18 8 + 1).toInt = Y + 1 := by rw [i_add (by rw [i1]; omega) (by rw [i1]; omega), i1, c3]
  generalize h1.2.1 18 8 + 1 = y8 at v8
  have s7 := a4.or hr
  generalize h1.2.1 18 7 ||| r = x7 at s7
  refine hQ r _ (HI_full (HI_full g1 iv_187.1) iv_187.2) (frm_put (frm_put (WCX_T f1) rfl) rfl) ⟨⟨fun p hp => ?_, fun i hi => ?_, by rw [put_at]; exact v8⟩, ⟨a2.1, ?_⟩, ?_, ?_, ?_, ?_, ?_, ?_⟩ hr
  · rw [put_ne (by omega), put_ne (by omega), put_ne (by omega), put_ne (by omega), put_ne (by omega), put_ne (by omega), put_ne (by omega), put_ne (by omega), put_ne (by omega), put_ne (by omega)]
    exact c1 p hp
  · rw [put_ne (by omega), put_ne (by omega)]
    exact c2 i hi
  · have rq := yb_rng hY
    obtain ⟨r1, r2, r3⟩ := a2.2
    refine ⟨by rw [put_ne (by omega), put_ne (by omega)]; exact r1, fun c hc => ?_, fun j hj => by rw [put_ne (by omega), put_ne (by omega)]; exact r3 j hj⟩
    rw [put_ne (by omega), put_ne (by omega), put_ne (by omega), put_ne (by omega), put_ne (by omega), put_ne (by omega)]
    exact r2 c hc
  · rw [put_ne (by omega), put_ne (by omega)]; exact a3
  · rw [put_ne (by omega), put_at]; exact s7
  · rw [put_ne (by omega), put_ne (by omega)]; exact a5
  · rw [put_ne (by omega), put_ne (by omega)]; exact a6
  · rw [put_ne (by omega), put_ne (by omega)]; exact a7
  · rw [put_ne (by omega), put_ne (by omega)]; exact a8
end ASK
/-- one cell of S -/
def upS (S : Nat → Nat → Int) (a p : Nat) (v : Int) : Nat → Nat → Int := fun b x => if b = a ∧ x = p then v else S b x
theorem upS_rg {S : Nat → Nat → Int} {p : Nat} {v : Int} (hsr : SRG S) (hv : 0 ≤ v ∧ v ≤ 6) : SRG (upS S 2 p v) := by
  intro x hx
  obtain ⟨s1, s2, s3, s4, s5⟩ := hsr x hx
  unfold upS
  refine ⟨by rw [if_neg (by omega)]; exact s1, by rw [if_neg (by omega)]; exact s2, ?_, by rw [if_neg (by omega)]; exact s4, by rw [if_neg (by omega)]; exact s5⟩
  split
  · exact hv
  · exact s3
theorem upS_rg4 {S : Nat → Nat → Int} {p : Nat} {v : Int} (hsr : SRG S) (hv : 0 ≤ v ∧ v ≤ 9) : SRG (upS S 4 p v) := by
  intro x hx
  obtain ⟨s1, s2, s3, s4, s5⟩ := hsr x hx
  unfold upS
  refine ⟨by rw [if_neg (by omega)]; exact s1, by rw [if_neg (by omega)]; exact s2, by rw [if_neg (by omega)]; exact s3, by rw [if_neg (by omega)]; exact s4, ?_⟩
  split
  · exact hv
  · exact s5
theorem upS_5 {S : Nat → Nat → Int} {a p : Nat} {v : Int} (ha : a ≠ 5) (h5 : SR5 S) : SR5 (upS S a p v) := fun i hi => by
  unfold upS
  rw [if_neg (by omega)]
  exact h5 i hi
theorem CG.up2 {h : Hp} {S : Nat → Nat → Int} {Y : Int} {p : Nat} {v : Int32} (hg : CG h S Y) : CG (hpI h 21 p v) (upS S 2 p v.toInt) Y := by
  obtain ⟨g1, g2, g3⟩ := hg
  refine ⟨fun x hx => ?_, fun i hi => ?_, by rw [put_ne (by omega)]; exact g3⟩
  · obtain ⟨k1, k2, k3, k4, k5⟩ := g1 x hx
    have e : ∀ b, b ≠ 21 → (hpI h 21 p v).2.1 b x = h.2.1 b x := fun b hb => put_ne (by omega)
    unfold upS
    rw [e 19 (by decide), e 20 (by decide), e 22 (by decide), e 23 (by decide), put_if]
    refine ⟨by rw [if_neg (by omega)]; exact k1, by rw [if_neg (by omega)]; exact k2, ?_, by rw [if_neg (by omega)]; exact k4, by rw [if_neg (by omega)]; exact k5⟩
    by_cases c : x = p
    · rw [if_pos c, if_pos ⟨rfl, c⟩]
    · rw [if_neg c, if_neg (fun z => c z.2)]
      exact k3
  · unfold upS
    rw [put_ne (by omega), if_neg (by omega)]
    exact g2 i hi
theorem CG.up4 {h : Hp} {S : Nat → Nat → Int} {Y : Int} {p : Nat} {v : Int32} (hg : CG h S Y) : CG (hpI h 23 p v) (upS S 4 p v.toInt) Y := by
  obtain ⟨g1, g2, g3⟩ := hg
  refine ⟨fun x hx => ?_, fun i hi => ?_, by rw [put_ne (by omega)]; exact g3⟩
  · obtain ⟨k1, k2, k3, k4, k5⟩ := g1 x hx
    have e : ∀ b, b ≠ 23 → (hpI h 23 p v).2.1 b x = h.2.1 b x := fun b hb => put_ne (by omega)
    unfold upS
    rw [e 19 (by decide), e 20 (by decide), e 21 (by decide), e 22 (by decide), put_if]
    refine ⟨by rw [if_neg (by omega)]; exact k1, by rw [if_neg (by omega)]; exact k2, by rw [if_neg (by omega)]; exact k3, by rw [if_neg (by omega)]; exact k4, ?_⟩
    by_cases c : x = p
    · rw [if_pos c, if_pos ⟨rfl, c⟩]
    · rw [if_neg c, if_neg (fun z => c z.2)]
      exact k5
  · unfold upS
    rw [put_ne (by omega), if_neg (by omega)]
    exact g2 i hi
theorem MG.up2 {h : Hp} {S : Nat → Nat → Int} {Y : Int} {p : Nat} {v : Int32} (hg : MG h S Y) : MG (hpI h 96 p v) (upS S 2 p v.toInt) Y := by
  obtain ⟨g1, g2, g3⟩ := hg
  refine ⟨fun x hx => ?_, fun i hi => ?_, by rw [put_ne (by omega)]; exact g3⟩
  · obtain ⟨k1, k2, k3, k4, k5⟩ := g1 x hx
    have e : ∀ b, b ≠ 96 → (hpI h 96 p v).2.1 b x = h.2.1 b x := fun b hb => put_ne (by omega)
    unfold upS
    rw [e 94 (by decide), e 95 (by decide), e 97 (by decide), e 98 (by decide), put_if]
    refine ⟨by rw [if_neg (by omega)]; exact k1, by rw [if_neg (by omega)]; exact k2, ?_, by rw [if_neg (by omega)]; exact k4, by rw [if_neg (by omega)]; exact k5⟩
    by_cases c : x = p
    · rw [if_pos c, if_pos ⟨rfl, c⟩]
    · rw [if_neg c, if_neg (fun z => c z.2)]
      exact k3
  · unfold upS
    rw [put_ne (by omega), if_neg (by omega)]
    exact g2 i hi
theorem MG.up4 {h : Hp} {S : Nat → Nat → Int} {Y : Int} {p : Nat} {v : Int32} (hg : MG h S Y) : MG (hpI h 98 p v) (upS S 4 p v.toInt) Y := by
  obtain ⟨g1, g2, g3⟩ := hg
  refine ⟨fun x hx => ?_, fun i hi => ?_, by rw [put_ne (by omega)]; exact g3⟩
  · obtain ⟨k1, k2, k3, k4, k5⟩ := g1 x hx
    have e : ∀ b, b ≠ 98 → (hpI h 98 p v).2.1 b x = h.2.1 b x := fun b hb => put_ne (by omega)
    unfold upS
    rw [e 94 (by decide), e 95 (by decide), e 96 (by decide), e 97 (by decide), put_if]
    refine ⟨by rw [if_neg (by omega)]; exact k1, by rw [if_neg (by omega)]; exact k2, by rw [if_neg (by omega)]; exact k3, by rw [if_neg (by omega)]; exact k4, ?_⟩
    by_cases c : x = p
    · rw [if_pos c, if_pos ⟨rfl, c⟩]
    · rw [if_neg c, if_neg (fun z => c z.2)]
      exact k5
  · unfold upS
    rw [put_ne (by omega), if_neg (by omega)]
    exact g2 i hi
theorem upS_up {S : Nat → Nat → Int} {a p : Nat} {v w : Int} : upS (upS S a p v) a p w = upS S a p w := by
  funext b x
  unfold upS
  by_cases c : b = a ∧ x = p
  · rw [if_pos c, if_pos c]
  · rw [if_neg c, if_neg c, if_neg c]
