/-! The reference reads a yard, exactly. -/
/-- the letters of the words -/
def LTR (h : Hp) : Prop := ∀ j, j < 14 → (h.2.1 108 j).toInt = [114, 101, 97, 99, 104, 104, 111, 108, 100, 100, 111, 100, 103, 101].getD j 0
theorem LTR.fr {W : List (Nat × Nat)} {h h' : Hp} (hl : LTR h) (hf : frm W h h') (hw : ∀ k, inW W 108 k = false) : LTR h' := fun j hj => by rw [frI hf (hw j)]; exact hl j hj
/-- a clause's head: whether, the place -/
def hdP (T : Nat → Int) (n a : Nat) : Bool × Nat := if (wdP T n a).1 < 0 then (false, (wdP T n a).2) else if nxP T n (wdP T n a).2 = 32 then (true, (wdP T n a).2 + 1) else (false, (wdP T n a).2)
theorem wrd_hd {T : Nat → Int} {n a : Nat} {s : Nat} {c w : Int} (hx : nxP T n a = c) (hw : 0 ≤ w) (he : wdP T n a = (if (lstP T n (sB s) (a + 1)).1 = true then w else -1, (lstP T n (sB s) (a + 1)).2)) : wrdP T n (c :: sB s) a = hdP T n a := by
  rw [lst_wrd]
  unfold hdP
  rw [he]
  have e : lstP T n (c :: sB s) a = lstP T n (sB s) (a + 1) := by
    rw [lstP, if_pos hx]
  rw [e]
  generalize lstP T n (sB s) (a + 1) = r
  obtain ⟨b, p⟩ := r
  cases b with
  | true =>
    show (if nxP T n p = 32 then (true, p + 1) else (false, p)) = if w < 0 then (false, p) else if nxP T n p = 32 then (true, p + 1) else (false, p)
    rw [if_neg (show ¬ w < 0 by omega)]
  | false => rfl
theorem hd_r {T : Nat → Int} {n a : Nat} (hx : nxP T n a = 114) : wrdP T n [114, 101, 97, 99, 104] a = hdP T n a ∧ ((hdP T n a).1 = true → (wdP T n a).1 = 0) := by
  have he : wdP T n a = (if (lstP T n (sB 0) (a + 1)).1 = true then 0 else -1, (lstP T n (sB 0) (a + 1)).2) := by unfold wdP; rw [if_pos hx]
  refine ⟨wrd_hd (s := 0) (w := 0) hx (by decide) he, fun q => ?_⟩
  unfold hdP at q
  rw [he] at q ⊢
  cases hb : (lstP T n (sB 0) (a + 1)).1 with
  | true => rfl
  | false =>
    rw [hb] at q
    simp at q
theorem hd_h {T : Nat → Int} {n a : Nat} (hx : nxP T n a = 104) : wrdP T n [104, 111, 108, 100] a = hdP T n a ∧ ((hdP T n a).1 = true → (wdP T n a).1 = 1) := by
  have he : wdP T n a = (if (lstP T n (sB 1) (a + 1)).1 = true then 1 else -1, (lstP T n (sB 1) (a + 1)).2) := by unfold wdP; rw [if_neg (by omega), if_pos hx]
  refine ⟨wrd_hd (s := 1) (w := 1) hx (by decide) he, fun q => ?_⟩
  unfold hdP at q
  rw [he] at q ⊢
  cases hb : (lstP T n (sB 1) (a + 1)).1 with
  | true => rfl
  | false =>
    rw [hb] at q
    simp at q
theorem hd_d {T : Nat → Int} {n a : Nat} (h1 : nxP T n a ≠ 114) (h2 : nxP T n a ≠ 104) : wrdP T n [100, 111, 100, 103, 101] a = hdP T n a ∧ ((hdP T n a).1 = true → (wdP T n a).1 = 2) := by
  by_cases hx : nxP T n a = 100
  · have he : wdP T n a = (if (lstP T n (sB 2) (a + 1)).1 = true then 2 else -1, (lstP T n (sB 2) (a + 1)).2) := by unfold wdP; rw [if_neg h1, if_neg h2, if_pos hx]
    refine ⟨wrd_hd (s := 2) (w := 2) hx (by decide) he, fun q => ?_⟩
    unfold hdP at q
    rw [he] at q ⊢
    cases hb : (lstP T n (sB 2) (a + 1)).1 with
    | true => rfl
    | false =>
      rw [hb] at q
      simp at q
  · have he : wdP T n a = (-1, a) := by unfold wdP; rw [if_neg h1, if_neg h2, if_neg hx]
    have e : hdP T n a = (false, a) := by
      unfold hdP
      rw [he]
      rfl
    rw [e]
    refine ⟨?_, fun q => by simp at q⟩
    rw [wrdP, if_neg hx]
theorem clP_hd {T : Nat → Int} {n a : Nat} {m : List Int} : clP T n a m = if (hdP T n a).1 = true then (match numP T n (hdP T n a).2 with
    | none => (false, (hdP T n a).2, m, 0, 0)
    | some (v, b) => if nxP T n b = 32 then ((ecP T n (b + 1) m).1, (ecP T n (b + 1) m).2.1, (ecP T n (b + 1) m).2.2, (wdP T n a).1, v) else (false, b, m, 0, 0)) else (false, (hdP T n a).2, m, 0, 0) := by
  unfold clP hdP
  by_cases c1 : (wdP T n a).1 < 0
  · rw [if_pos c1, if_pos c1]
    rfl
  · rw [if_neg c1, if_neg c1]
    by_cases c2 : nxP T n (wdP T n a).2 = 32
    · rw [if_pos c2, if_pos c2]
      rfl
    · rw [if_neg c2, if_neg c2]
      rfl
theorem cnF {b : Bool} (h : condB .eq (b2i b) 0 = false) : b = true := nb.mp (of_decide_eq_false (cI h))
def WTX (cn : Nat) : List (Nat × Nat) := [(93, 12), (93, 13), (93, 22), (93, 23), (93, 24), (106, 999), (107, 999), (105, cn), (104, cn)]
theorem WTX_104 {cn : Nat} : inW (WTX cn) 104 cn = true := by simp [inW, WTX]
theorem sub_TX {cn : Nat} {h h' : Hp} (hf : frm (WTX cn) h h') : frm (WCL cn) h h' := frm_sub (W := WCL cn) (by simp [subW, WTX, WCL]) hf
theorem sub_TE3 {cn : Nat} {h h' : Hp} (hf : frm (WTE cn) h h') : frm (WTX cn) h h' := frm_sub (W := WTX cn) (by simp [subW, WTE, WTX]) hf
section CLX
variable {X : Scr} {dp f : Nat} {h : Hp} {Q : Option Value → Hp → Prop}
theorem hd_x (c : Int32) (cn : Nat) (hc : c.toInt = cn) (hcn : cn < 60) (hh : HI h) (hL : LTR h)
    (hQ : ∀ (ok : Bool) h', HI h' → frm (WHD cn) h h' → (ok, tA h') = hdP (tT h) (tN h) (tA h) → (ok = true → (h'.2.1 102 cn).toInt = (wdP (tT h) (tN h) (tA h)).1) → Q (some (.int (b2i ok))) h') : Ends X (dp + 1 + 1 + 1) 130 0 [.ref 93, .int c] [] h Q := by
  have hcc : c.toNatClampNeg = cn := by show c.toInt.toNat = _; omega
  have hi : inB c 60 = true := inB_iff (by omega) (by omega)
  have go : ∀ (a b v : Int32) (an bn : Nat) (l : List Int), a.toInt = an → b.toInt = bn → an + bn ≤ 14 → 0 ≤ v.toInt → v.toInt ≤ 2 → ((List.range bn).map (fun k => (h.2.1 108 (an + k)).toInt)) = l → wrdP (tT h) (tN h) l (tA h) = hdP (tT h) (tN h) (tA h) ∧ ((hdP (tT h) (tN h) (tA h)).1 = true → (wdP (tT h) (tN h) (tA h)).1 = v.toInt) → Ends X (dp + 1 + 1) 121 0 [.ref 93, .int a, .int b, .retAddr 0] [] (hpI h 102 c.toNatClampNeg v) (fun rv h6 => ∃ r7, rv = some (.int r7) ∧ HS h6 ∧ (r7 = 0 ∨ r7 = 1) ∧ Q (some (.int r7)) h6) := by
    intro a b v an bn l ha hb hab hv1 hv2 hl he
    rw [hcc]
    have hh1 : HI (hpI h 102 cn v) := HI_put hh (by show (0 : Int) ≤ _; omega) (by show _ ≤ (2 : Int); omega)
    have eA : tA (hpI h 102 cn v) = tA h := by unfold tA; rw [put_ne (by omega)]
    have eN : tN (hpI h 102 cn v) = tN h := by unfold tN; rw [put_ne (by omega)]
    have eT : tT (hpI h 102 cn v) = tT h := by funext i; unfold tT; rw [put_ne (by omega)]
    refine tw_ok a b an bn ha hb hab hh1 (fun ok h' a1 a2 a3 => ⟨_, rfl, a1.hs, b2i_01 _, ?_⟩)
    have el : ((List.range bn).map (fun k => ((hpI h 102 cn v).2.1 108 (an + k)).toInt)) = l := by
      rw [← hl]
      apply List.map_congr_left
      intro k _
      rw [put_ne (by omega)]
    rw [el, eT, eN, eA, he.1] at a3
    refine hQ ok h' a1 (frm_trans (frm_put frm_refl (by simp [inW, WHD])) (frm_sub (V := WA) (by simp [subW, WA, WHD]) a2)) a3 (fun q => ?_)
    rw [frI a2 (by rfl), put_at]
    exact (he.2 (by rw [← a3]; exact q)).symm
  have nr := nx_rng hh
  have l1 : ((List.range 5).map (fun k => (h.2.1 108 (0 + k)).toInt)) = [114, 101, 97, 99, 104] := by
    simp only [List.range, List.range.loop, List.map]
    rw [hL 0 (by decide), hL 1 (by decide), hL 2 (by decide), hL 3 (by decide), hL 4 (by decide)]
    rfl
  have l2 : ((List.range 4).map (fun k => (h.2.1 108 (5 + k)).toInt)) = [104, 111, 108, 100] := by
    simp only [List.range, List.range.loop, List.map]
    rw [hL 5 (by decide), hL 6 (by decide), hL 7 (by decide), hL 8 (by decide)]
    rfl
  have l3 : ((List.range 5).map (fun k => (h.2.1 108 (9 + k)).toInt)) = [100, 111, 100, 103, 101] := by
    simp only [List.range, List.range.loop, List.map]
    rw [hL 9 (by decide), hL 10 (by decide), hL 11 (by decide), hL 12 (by decide), hL 13 (by decide)]
    rfl
  refine w_head c hh.hs (nx_ok hh (fun r hr => ⟨r, rfl, hh.hs, fun e => ⟨hi, ?_⟩, fun e => ⟨hi, ?_⟩, fun e => ⟨hi, ?_⟩⟩))
  · exact go 9 5 2 9 5 _ rfl rfl (by omega) (by decide) (by decide) l3 (hd_d (by omega) (by omega))
  · exact go 5 4 1 5 4 _ rfl rfl (by omega) (by decide) (by decide) l2 (hd_h (by omega))
  · exact go 0 5 0 0 5 _ rfl rfl (by omega) (by decide) (by decide) l1 (hd_r (by omega))
theorem te_x (c : Int32) (cn : Nat) (hc : c.toInt = cn) (hcn : cn < 60) (hf5 : f ≤ 5) (sg : List Int) (hh : HI h) (hp : SGp f h sg) (hl : sg.length ≤ tA h) (hle : tA h ≤ tN h)
    (q0 : ∀ h', HI h' → frm (WTX cn) h h' → LW f h h' → (ecP (tT h) (tN h) (tA h) sg).1 = false → tA h' = (ecP (tT h) (tN h) (tA h) sg).2.1 → Q (some (.int 0)) h')
    (q1 : ∀ h', HI h' → frm (WTX cn) h h' → LW f h h' → (ecP (tT h) (tN h) (tA h) sg).1 = true → tA h' = (ecP (tT h) (tN h) (tA h) sg).2.1 → SGp f h' (ecP (tT h) (tN h) (tA h) sg).2.2 → (h'.2.1 104 cn).toInt = ((100 * f + sg.length : Nat) : Int) → (h'.2.1 105 cn).toInt = ((100 * f + (ecP (tT h) (tN h) (tA h) sg).2.2.length : Nat) : Int) → Q (some (.int 1)) h') :
    Ends X (dp + 1 + 1 + 1 + 1) 129 0 [.ref 93, .int c, .retAddr 0, .retAddr 0] [] h Q := by
  have hcc : c.toNatClampNeg = cn := by show c.toInt.toNat = _; omega
  refine w_te0 c hh.hs ⟨inB_iff (by omega) (by omega), ?_⟩
  rw [hcc]
  have v22 : (hpI (hpI h 93 23 0) 93 24 0).2.1 93 22 = h.2.1 93 22 := by rw [put_ne (by omega), put_ne (by omega)]
  rw [v22]
  have b22 := hh.iv 93 22 (r := (0, 600)) rfl
  have hh1 : HI (hpI (hpI (hpI h 93 23 0) 93 24 0) 104 cn (h.2.1 93 22)) := HI_put (HI_put (HI_put hh (by show (0 : Int) ≤ 0; decide) (by show (0 : Int) ≤ 101; decide)) (i32r 0).1 (i32r 0).2) (by show (0 : Int) ≤ _; exact b22.1) (by show _ ≤ (600 : Int); exact b22.2)
  have f1 : frm (WTX cn) h (hpI (hpI (hpI h 93 23 0) 93 24 0) 104 cn (h.2.1 93 22)) := frm_put (frm_put (frm_put frm_refl rfl) rfl) WTX_104
  have l1 : LW f h (hpI (hpI (hpI h 93 23 0) 93 24 0) 104 cn (h.2.1 93 22)) := LW.tr (LW.tr (LW.put (by decide)) (LW.put (by decide))) (LW.put (by decide))
  have e104 : ((hpI (hpI (hpI h 93 23 0) 93 24 0) 104 cn (h.2.1 93 22)).2.1 104 cn).toInt = ((100 * f + sg.length : Nat) : Int) := by rw [put_at]; exact hp.1
  have eA : tA (hpI (hpI (hpI h 93 23 0) 93 24 0) 104 cn (h.2.1 93 22)) = tA h := by unfold tA; rw [put_ne (by omega), put_ne (by omega), put_ne (by omega)]
  have eN : tN (hpI (hpI (hpI h 93 23 0) 93 24 0) 104 cn (h.2.1 93 22)) = tN h := by unfold tN; rw [put_ne (by omega), put_ne (by omega), put_ne (by omega)]
  have eT : tT (hpI (hpI (hpI h 93 23 0) 93 24 0) 104 cn (h.2.1 93 22)) = tT h := by funext i; unfold tT; rw [put_ne (by omega), put_ne (by omega), put_ne (by omega)]
  have s1 : PSt f (hpI (hpI (hpI h 93 23 0) 93 24 0) 104 cn (h.2.1 93 22)) [] sg := ⟨by rw [put_ne (by omega), put_ne (by omega), put_at]; rfl, by rw [put_ne (by omega), put_at]; rfl, by rw [put_ne (by omega), put_ne (by omega), put_ne (by omega)]; exact hp.1, fun j hj => by simp at hj, fun j hj => by rw [put_ne (by omega), put_ne (by omega), put_ne (by omega)]; exact hp.2 j hj⟩
  generalize hpI (hpI (hpI h 93 23 0) 93 24 0) 104 cn (h.2.1 93 22) = h1 at *
  refine te_loop (h0 := h1) c cn hc hcn hf5 (tN h1 + 1) (tA h1) [] sg true (fun ok h' ws' sg' a1 a2 a3 a4 a5 a6 => ?_) (tN h1 + 1) [] sg true 1 _ h1 hh1 frm_refl LW.rf s1 (fun w hw => by cases hw) (by rw [eA]; simpa using hl) (by rw [eA, eN]; exact hle) (by omega) (by constructor <;> intro q <;> cases q) rfl
  have f2 := frm_trans f1 (sub_TE3 a2)
  have l2 := LW.tr l1 a3
  rw [eT, eN, eA] at a5
  have hn := (tN_v hh).2
  have sim := ec_sim (tT h) (tN h) hn (tA h) sg hle
  rw [eP_irr (tT h) (tN h) (tN h + 1) (tN h + 1 - tA h) (tA h) [] sg true hle (by omega) (by omega)] at a5
  change eC (tT h) (tN h) (tA h) [] sg true = _ at a5
  cases hr : (ecP (tT h) (tN h) (tA h) sg).1 with
  | true =>
    obtain ⟨i1, i2, i3⟩ := sim.1 hr
    rw [a5] at i3
    injection i3 with j1 j2
    injection j2 with j2 j3
    injection j3 with j3 j4
    subst j1 j3 j4
    have a6 := a6 rfl
    refine q1 h' a1 f2 l2 hr j2 ⟨a4.2.2.1, a4.2.2.2.2⟩ ?_ ?_
    · rw [frI a2 (by rfl)]
      exact e104
    · rw [a6]
      exact a4.2.2.1
  | false =>
    obtain ⟨i1, i2⟩ := sim.2 hr
    rw [a5] at i1 i2
    have i1 : ok = false := i1
    subst i1
    exact q0 h' a1 f2 l2 hr i2
theorem cl_x (c : Int32) (cn : Nat) (hc : c.toInt = cn) (hcn : cn < 60) (hf5 : f ≤ 5) (sg : List Int) (hh : HI h) (hL : LTR h) (hp : SGp f h sg) (hl : sg.length ≤ tA h) (hle : tA h ≤ tN h)
    (q0 : ∀ h', HI h' → frm (WCL cn) h h' → LW f h h' → (clP (tT h) (tN h) (tA h) sg).1 = false → tA h' = (clP (tT h) (tN h) (tA h) sg).2.1 → Q (some (.int 0)) h')
    (q1 : ∀ h', HI h' → frm (WCL cn) h h' → LW f h h' → (clP (tT h) (tN h) (tA h) sg).1 = true → tA h' = (clP (tT h) (tN h) (tA h) sg).2.1 → SGp f h' (clP (tT h) (tN h) (tA h) sg).2.2.1 → (h'.2.1 102 cn).toInt = (clP (tT h) (tN h) (tA h) sg).2.2.2.1 → (h'.2.1 103 cn).toInt = (clP (tT h) (tN h) (tA h) sg).2.2.2.2 → (h'.2.1 104 cn).toInt = ((100 * f + sg.length : Nat) : Int) → (h'.2.1 105 cn).toInt = ((100 * f + (clP (tT h) (tN h) (tA h) sg).2.2.1.length : Nat) : Int) → Q (some (.int 1)) h') :
    Ends X (dp + 1 + 1 + 1 + 1 + 1) 131 0 [.ref 93, .int c] [] h Q := by
  have hcc : c.toNatClampNeg = cn := by show c.toInt.toNat = _; omega
  have hi : inB c 60 = true := inB_iff (by omega) (by omega)
  rw [clP_hd] at q0 q1
  refine w_clause c hh.hs (hd_x c cn hc hcn hh hL (fun ok h1 hh1 f1 t1 t2 => ⟨_, rfl, hh1.hs, fun e => ?_, fun e => ?_⟩))
  · have e := cz e
    subst e
    rw [← t1, if_neg (show ¬ ((false, tA h1) : Bool × Nat).1 = true from Bool.false_ne_true)] at q0
    exact q0 h1 hh1 (sub_HD f1) (LW.fr f1 (fun _ => rfl)) rfl rfl
  · have e := cnF e
    subst e
    have t2 := t2 rfl
    rw [← t1, if_pos rfl] at q0 q1
    have l1 : LW f h h1 := LW.fr f1 (fun k => rfl)
    have eN1 : tN h1 = tN h := tN_fr f1 rfl
    have eT1 : tT h1 = tT h := tT_fr f1 (fun _ => rfl)
    have s1 : SGp f h1 sg := hp.fr f1 rfl (fun k => rfl)
    refine tn_ok hh1 (fun ok2 h2 hh2 f2 hm => ⟨_, rfl, hh2.hs, fun e2 => ⟨hi, ?_⟩, fun e2 => ?_⟩)
    all_goals rw [eT1, eN1] at hm
    · have e2 := cn2 e2
      subst e2
      have l2 : LW f h h2 := LW.tr l1 (LW.fr f2 (fun k => rfl))
      have eN2 : tN h2 = tN h := (tN_fr f2 rfl).trans eN1
      have eT2 : tT h2 = tT h := (tT_fr f2 (fun _ => rfl)).trans eT1
      have s2 : SGp f h2 sg := s1.fr f2 rfl (fun k => rfl)
      have fr2 := frm_trans (sub_HD f1) (sub_WD2 f2)
      cases hnum : numP (tT h) (tN h) (tA h1) with
      | none =>
        rw [hnum] at hm
        exact absurd hm.1 (by decide)
      | some q =>
        obtain ⟨v, b⟩ := q
        rw [hnum] at hm q0 q1
        simp only at q0 q1
        obtain ⟨-, m1, m2⟩ := hm
        have nl := numP_le2 hnum
        have nv := numP_le hnum
        rw [hcc]
        have b13 := hh2.iv 93 13 (r := (0, 99)) rfl
        have hh3 : HI (hpI h2 103 cn (h2.2.1 93 13)) := HI_put hh2 (by show (0 : Int) ≤ _; exact b13.1) (by show _ ≤ (99 : Int); exact b13.2)
        have f3 : frm (WCL cn) h (hpI h2 103 cn (h2.2.1 93 13)) := frm_put fr2 WCL_103
        have l3 : LW f h (hpI h2 103 cn (h2.2.1 93 13)) := LW.tr l2 (LW.put (by decide))
        have s3 : SGp f (hpI h2 103 cn (h2.2.1 93 13)) sg := ⟨by rw [put_ne (by omega)]; exact s2.1, fun j hj => by rw [put_ne (by omega)]; exact s2.2 j hj⟩
        have eA3 : tA (hpI h2 103 cn (h2.2.1 93 13)) = b := by rw [← m1]; unfold tA; rw [put_ne (by omega)]
        have eN3 : tN (hpI h2 103 cn (h2.2.1 93 13)) = tN h := by rw [← eN2]; unfold tN; rw [put_ne (by omega)]
        have eT3 : tT (hpI h2 103 cn (h2.2.1 93 13)) = tT h := by rw [← eT2]; funext i; unfold tT; rw [put_ne (by omega)]
        have v103 : ((hpI h2 103 cn (h2.2.1 93 13)).2.1 103 cn).toInt = v := by rw [put_at]; exact m2
        have v102 : ((hpI h2 103 cn (h2.2.1 93 13)).2.1 102 cn).toInt = (wdP (tT h) (tN h) (tA h)).1 := by rw [put_ne (by omega), frI f2 (by rfl)]; exact t2
        generalize hpI h2 103 cn (h2.2.1 93 13) = h3 at *
        have r3 := nx_rng hh3
        refine tk_ok 32 (by decide) hh3 (fun h4 hh4 f4 a4 => ⟨_, rfl, hh4.hs, fun e3 => ?_, fun e3 => ?_⟩)
        all_goals rw [eT3, eN3, eA3] at a4 e3
        · have e3 := of_decide_eq_false (cz e3)
          rw [if_neg e3] at a4
          have e3 : ¬ nxP (tT h) (tN h) b = 32 := e3
          rw [if_neg e3] at q0
          exact q0 h4 hh4 (frm_trans f3 (sub_WA2 f4)) (LW.tr l3 (LW.fr f4 (fun k => rfl))) rfl a4
        · have e3 := of_decide_eq_true (cnF e3)
          rw [if_pos e3] at a4
          have e3 : nxP (tT h) (tN h) b = 32 := e3
          have lt := nx_lt2 e3 (by decide)
          rw [if_pos e3] at q0 q1
          have l4 : LW f h h4 := LW.tr l3 (LW.fr f4 (fun k => rfl))
          have eN4 : tN h4 = tN h := (tN_fr f4 rfl).trans eN3
          have eT4 : tT h4 = tT h := (tT_fr f4 (fun _ => rfl)).trans eT3
          have s4 : SGp f h4 sg := s3.fr f4 rfl (fun k => rfl)
          have fr4 := frm_trans f3 (sub_WA2 f4)
          have hl1 : tA h ≤ tA h1 := by
            have w := wd_le (T := tT h) hle
            have := congrArg Prod.snd t1
            have this : tA h1 = (hdP (tT h) (tN h) (tA h)).2 := this
            rw [this]
            unfold hdP
            split
            · exact w.1
            · split
              · show tA h ≤ _ + 1; omega
              · exact w.1
          have te := te_x (X := X) (dp := dp) (Q := fun rv h14 => ∃ r15, rv = some (.int r15) ∧ HS h14 ∧ ((condB .eq r15 0 = true → Q (some (.int 0)) h14) ∧ (condB .eq r15 0 = false → Q (some (.int 1)) h14))) c cn hc hcn hf5 sg hh4 s4 (by omega) (by rw [eN4]; omega)
          rw [eT4, eN4, a4] at te
          refine te (fun h5 b1 b2 b3 b4 b5 => ⟨0, rfl, b1.hs, fun _ => q0 h5 b1 (frm_trans fr4 (sub_TX b2)) (LW.tr l4 b3) b4 b5, fun x => absurd x (by decide)⟩) (fun h5 b1 b2 b3 b4 b5 b6 b7 b8 => ⟨1, rfl, b1.hs, fun x => absurd x (by decide), fun _ => ?_⟩)
          refine q1 h5 b1 (frm_trans fr4 (sub_TX b2)) (LW.tr l4 b3) b4 b5 b6 ?_ ?_ b7 b8
          · rw [frI b2 (by rfl), frI f4 rfl]
            exact v102
          · rw [frI b2 (by rfl), frI f4 rfl]
            exact v103
    · have e2 := cz2 e2
      subst e2
      cases hnum : numP (tT h) (tN h) (tA h1) with
      | some q =>
        rw [hnum] at hm
        exact absurd hm.1 (by decide)
      | none =>
        rw [hnum] at hm q0
        exact q0 h2 hh2 (frm_trans (sub_HD f1) (sub_WD2 f2)) (LW.tr l1 (LW.fr f2 (fun k => rfl))) rfl hm.2
end CLX
/-- the clauses that were read into yard f -/
def YMc (f : Nat) (h : Hp) (cs : List Cl) : Prop := ∀ c, c < cs.length → (h.2.1 102 (10 * f + c)).toInt = (cs.getD c cl0).1 ∧ (h.2.1 103 (10 * f + c)).toInt = (cs.getD c cl0).2.1 ∧ (h.2.1 104 (10 * f + c)).toInt = ((100 * f + (cs.getD c cl0).2.2.1 : Nat) : Int) ∧ (h.2.1 105 (10 * f + c)).toInt = ((100 * f + (cs.getD c cl0).2.2.2 : Nat) : Int)
/-- yard f of the reference is these clauses and marks -/
def YM (f : Nat) (h : Hp) (cs : List Cl) (m : List Int) : Prop := (h.2.1 101 f).toInt = (cs.length : Int) ∧ YMc f h cs ∧ ∀ j, j < m.length → (h.2.1 106 (100 * f + j)).toInt = m.getD j 0
/-- the yards below f are left as they were -/
def LOX (f : Nat) (h h' : Hp) : Prop := LW f h h' ∧ (∀ g, g ≠ f → h'.2.1 101 g = h.2.1 101 g) ∧ ∀ c, c < 10 * f → c < 900 → h'.2.1 102 c = h.2.1 102 c ∧ h'.2.1 103 c = h.2.1 103 c ∧ h'.2.1 104 c = h.2.1 104 c ∧ h'.2.1 105 c = h.2.1 105 c
theorem LOX.rf {f : Nat} {h : Hp} : LOX f h h := ⟨LW.rf, fun _ _ => rfl, fun _ _ _ => ⟨rfl, rfl, rfl, rfl⟩⟩
theorem LOX.tr {f : Nat} {h h' h'' : Hp} (a : LOX f h h') (b : LOX f h' h'') : LOX f h h'' := ⟨LW.tr a.1 b.1, fun g h1 => (b.2.1 g h1).trans (a.2.1 g h1), fun c h1 h2 => ⟨(b.2.2 c h1 h2).1.trans (a.2.2 c h1 h2).1, (b.2.2 c h1 h2).2.1.trans (a.2.2 c h1 h2).2.1, (b.2.2 c h1 h2).2.2.1.trans (a.2.2 c h1 h2).2.2.1, (b.2.2 c h1 h2).2.2.2.trans (a.2.2 c h1 h2).2.2.2⟩⟩
theorem WCL_o {cn a k : Nat} (hk : k < 900) (hcn : cn < 900) (ha : a = 102 ∨ a = 103 ∨ a = 104 ∨ a = 105) (hn : k ≠ cn) : inW (WCL cn) a k = false := by
  have h1 : (cn == k) = false := by simpa using fun q => hn q.symm
  rcases ha with rfl | rfl | rfl | rfl
  all_goals
    simp [inW, WCL, h1]
    omega
theorem LOX.cl {f cn : Nat} {h h' : Hp} (hf : frm (WCL cn) h h') (hl : LW f h h') (hcn : 10 * f ≤ cn) (hc9 : cn < 900) : LOX f h h' :=
  ⟨hl, fun g _ => frI hf rfl, fun c h1 h2 => ⟨frI hf (WCL_o h2 hc9 (Or.inl rfl) (by omega)), frI hf (WCL_o h2 hc9 (Or.inr (Or.inl rfl)) (by omega)), frI hf (WCL_o h2 hc9 (Or.inr (Or.inr (Or.inl rfl))) (by omega)), frI hf (WCL_o h2 hc9 (Or.inr (Or.inr (Or.inr rfl))) (by omega))⟩⟩
theorem LOX.A {f : Nat} {h h' : Hp} (hf : frm WA h h') : LOX f h h' := ⟨LW.fr hf (fun _ => rfl), fun g _ => frI hf rfl, fun c _ _ => ⟨frI hf rfl, frI hf rfl, frI hf rfl, frI hf rfl⟩⟩
section GTX
variable {X : Scr} {dp f : Nat} {h0 : Hp} {Q : Option Value → Hp → Prop}
theorem gtx_go (fv : Int32) (hfv : fv.toInt = f) (hf5 : f ≤ 5) (T : Nat → Int) (n : Nat) :
    ∀ (k : Nat) (nv : Int32) (cs : List Cl) (sg : List Int) (h : Hp), HI h → LTR h → frm WGT h0 h → LOX f h0 h → tT h = T → tN h = n → nv.toInt = (cs.length : Int) → cs.length + k = 9 → SGp f h sg → YMc f h cs → sg.length ≤ tA h → tA h ≤ n →
    (∀ h', HI h' → frm WGT h0 h' → LOX f h0 h' → (gtP T n (k + 1) (tA h) cs sg).1 = false → tA h' = (gtP T n (k + 1) (tA h) cs sg).2.1 → Q (some (.int 0)) h') →
    (∀ h', HI h' → frm WGT h0 h' → LOX f h0 h' → (gtP T n (k + 1) (tA h) cs sg).1 = true → YM f h' (gtP T n (k + 1) (tA h) cs sg).2.2.1 (gtP T n (k + 1) (tA h) cs sg).2.2.2 → Q (some (.int 1)) h') →
    Ends X (dp + 1 + 1 + 1 + 1 + 1 + 1) 132 15 [.ref 93, .int fv, .int nv] [] h Q
  | k, nv, cs, sg, h, hh, hL, hf, hlo, eT, eN, hnv, hk, hs, hy, hl, hle, q0, q1 => by
    have e1 : (10 * fv).toInt = ((10 * f : Nat) : Int) := by rw [i_mul (by rw [i10]; omega) (by rw [i10]; omega), i10, hfv]; omega
    have e2 : (10 * fv + nv).toInt = ((10 * f + cs.length : Nat) : Int) := by rw [i_add (by omega) (by omega), e1, hnv]; omega
    have n1 : (nv + 1).toInt = ((cs.length + 1 : Nat) : Int) := by rw [i_add (by rw [i1]; omega) (by rw [i1]; omega), i1]; omega
    have hff : fv.toNatClampNeg = f := by show fv.toInt.toNat = _; omega
    have hn := (tN_v hh).2
    rw [eN] at hn
    rw [gt_af] at q0 q1
    refine w_gt1 fv nv hh.hs ?_
    generalize 10 * fv + nv = cv at e2 ⊢
    generalize nv + 1 = nw at n1 ⊢
    have cx := cl_x (X := X) (dp := dp) (Q := fun rv h1 => ∃ r2, rv = some (.int r2) ∧ HS h1 ∧ ((condB .ne r2 0 = true → (inB fv 6 = true ∧ ((condB .ne ((hpI h1 101 fv.toNatClampNeg nw).2.1 93 12) ((hpI h1 101 fv.toNatClampNeg nw).2.1 93 11) = true → ((condB .eq nw 10 = true → Q (some (.int 0)) (hpI h1 101 fv.toNatClampNeg nw)) ∧ (condB .eq nw 10 = false → Ends X (dp + 1 + 1 + 1 + 1 + 1) 120 0 [.ref 93, .int 59] [] (hpI h1 101 fv.toNatClampNeg nw) (fun rv h8 => ∃ r9, rv = some (.int r9) ∧ HS h8 ∧ ((condB .ne r9 0 = true → Ends X (dp + 1 + 1 + 1 + 1 + 1 + 1) 132 15 [.ref 93, .int fv, .int nw] [] h8 Q) ∧ (condB .ne r9 0 = false → Q (some (.int 0)) h8)))))) ∧ (condB .ne ((hpI h1 101 fv.toNatClampNeg nw).2.1 93 12) ((hpI h1 101 fv.toNatClampNeg nw).2.1 93 11) = false → Q (some (.int 1)) (hpI h1 101 fv.toNatClampNeg nw))))) ∧ (condB .ne r2 0 = false → Q (some (.int 0)) h1))) cv (10 * f + cs.length) e2 (by omega) hf5 sg hh hL hs hl (by rw [eN]; exact hle)
    rw [eT, eN] at cx
    refine cx (fun h1 a1 a2 a3 a4 a5 => ⟨0, rfl, a1.hs, fun x => absurd x (by decide), fun _ => ?_⟩) (fun h1 a1 a2 a3 a4 a5 a6 a7 a8 a9 a10 => ⟨1, rfl, a1.hs, fun _ => ⟨inB_iff (by omega) (by omega), ?_⟩, fun x => absurd x (by decide)⟩)
    · rw [if_neg (by rw [a4]; decide)] at q0
      exact q0 h1 a1 (frm_trans hf (sub_CL a2)) (LOX.tr hlo (LOX.cl a2 a3 (by omega) (by omega))) rfl a5
    · rw [if_pos a4] at q0 q1
      have le := clP_ok (m := sg) hle a4
      generalize clP T n (tA h) sg = r at a4 a5 a6 a7 a8 a9 a10 q0 q1 le
      rw [hff]
      have hh2 : HI (hpI h1 101 f nw) := HI_put a1 (by show (0 : Int) ≤ _; omega) (by show _ ≤ (10 : Int); omega)
      have f2 : frm WGT h0 (hpI h1 101 f nw) := frm_put (frm_trans hf (sub_CL a2)) (by simp [inW, WGT])
      have lo2 : LOX f h0 (hpI h1 101 f nw) := LOX.tr (LOX.tr hlo (LOX.cl a2 a3 (by omega) (by omega))) ⟨LW.put (by decide), fun g h1 => put_ne (by omega), fun c _ _ => ⟨put_ne (by omega), put_ne (by omega), put_ne (by omega), put_ne (by omega)⟩⟩
      have s2 : SGp f (hpI h1 101 f nw) r.2.2.1 := ⟨by rw [put_ne (by omega)]; exact a6.1, fun j hj => by rw [put_ne (by omega)]; exact a6.2 j hj⟩
      have eA : tA (hpI h1 101 f nw) = r.2.1 := by rw [← a5]; unfold tA; rw [put_ne (by omega)]
      have eN2 : tN (hpI h1 101 f nw) = n := by rw [← eN, ← tN_fr (h := h) (h' := h1) a2 rfl]; unfold tN; rw [put_ne (by omega)]
      have eT2 : tT (hpI h1 101 f nw) = T := by rw [← eT, ← tT_fr (h := h) (h' := h1) a2 (fun _ => rfl)]; funext i; unfold tT; rw [put_ne (by omega)]
      have L2 : LTR (hpI h1 101 f nw) := fun j hj => by rw [put_ne (by omega), frI a2 (by rfl)]; exact hL j hj
      have y2 : YMc f (hpI h1 101 f nw) (snC cs sg r.2.2.1 r.2.2.2.1 r.2.2.2.2) := by
        intro c hc
        unfold snC at hc ⊢
        rw [List.length_append, List.length_singleton] at hc
        rw [put_ne (by omega), put_ne (by omega), put_ne (by omega), put_ne (by omega)]
        by_cases d : c = cs.length
        · subst d
          rw [getC2]
          exact ⟨a7, a8, a9, a10⟩
        · rw [getC1 (by omega)]
          rw [frI a2 (WCL_o (by omega) (by omega) (Or.inl rfl) (by omega)), frI a2 (WCL_o (by omega) (by omega) (Or.inr (Or.inl rfl)) (by omega)), frI a2 (WCL_o (by omega) (by omega) (Or.inr (Or.inr (Or.inl rfl))) (by omega)), frI a2 (WCL_o (by omega) (by omega) (Or.inr (Or.inr (Or.inr rfl))) (by omega))]
          exact hy c (by omega)
      have lenC : (snC cs sg r.2.2.1 r.2.2.2.1 r.2.2.2.2).length = cs.length + 1 := by unfold snC; rw [List.length_append, List.length_singleton]
      have v101 : (hpI h1 101 f nw).2.1 101 f = nw := put_at
      generalize hpI h1 101 f nw = h2 at *
      have va := (tA_v hh2).1
      have vn := (tN_v hh2).1
      rw [eA] at va
      rw [eN2] at vn
      generalize snC cs sg r.2.2.1 r.2.2.2.1 r.2.2.2.2 = cs2 at y2 lenC q0 q1 ⊢
      unfold afP at q0 q1
      refine ⟨fun e => ⟨fun e2 => ?_, fun e2 => ?_⟩, fun e => ?_⟩
      · have e : ¬ (h2.2.1 93 12).toInt = (h2.2.1 93 11).toInt := of_decide_eq_true (cI e)
        have e2 : nw.toInt = (10 : Int32).toInt := of_decide_eq_true (cI e2)
        rw [i10] at e2
        rw [if_neg (by omega), if_pos (by omega)] at q0
        exact q0 h2 hh2 f2 lo2 rfl eA
      · have e : ¬ (h2.2.1 93 12).toInt = (h2.2.1 93 11).toInt := of_decide_eq_true (cI e)
        have e2 : ¬ nw.toInt = (10 : Int32).toInt := of_decide_eq_false (cI e2)
        rw [i10] at e2
        rw [if_neg (by omega), if_neg (by omega)] at q0 q1
        refine tk_ok 59 (by decide) hh2 (fun h3 b1 b2 b3 => ⟨_, rfl, b1.hs, fun e3 => ?_, fun e3 => ?_⟩)
        all_goals rw [eT2, eN2, eA] at b3 e3
        · have e3 := of_decide_eq_true (cn2 e3)
          rw [if_pos e3] at b3
          have e3 : nxP T n r.2.1 = 59 := e3
          have lt := nx_lt2 e3 (by decide)
          rw [if_pos e3] at q0 q1
          match k, hk with
          | 0, hk => omega
          | k + 1, hk =>
            have go := gtx_go fv hfv hf5 T n k nw cs2 r.2.2.1 h3 b1 (L2.fr b2 (fun _ => rfl)) (frm_trans f2 (frm_sub (V := WA) (by decide) b2)) (LOX.tr lo2 (LOX.A b2)) ((tT_fr b2 (fun _ => rfl)).trans eT2) ((tN_fr b2 rfl).trans eN2) (by omega) (by omega) (s2.fr b2 rfl (fun _ => rfl)) (fun c hc => by rw [frI b2 (a := 102) rfl, frI b2 (a := 103) rfl, frI b2 (a := 104) rfl, frI b2 (a := 105) rfl]; exact y2 c hc) (by omega) (by omega)
            rw [b3] at go
            exact go q0 q1
        · have e3 := of_decide_eq_false (cz2 e3)
          rw [if_neg e3] at b3
          have e3 : ¬ nxP T n r.2.1 = 59 := e3
          rw [if_neg e3] at q0
          exact q0 h3 b1 (frm_trans f2 (frm_sub (V := WA) (by decide) b2)) (LOX.tr lo2 (LOX.A b2)) rfl b3
      · have e : ¬ ¬ (h2.2.1 93 12).toInt = (h2.2.1 93 11).toInt := of_decide_eq_false (cI e)
        rw [if_pos (by omega)] at q1
        exact q1 h2 hh2 f2 lo2 rfl ⟨by rw [v101, n1, lenC], y2, s2.2⟩
theorem gt_x (fv : Int32) (hfv : fv.toInt = f) (hf5 : f ≤ 5) (hh : HI h0) (hL : LTR h0)
    (q0 : ∀ h', HI h' → frm WGT h0 h' → LOX f h0 h' → (gtP (tT h0) (tN h0) 10 0 [] []).1 = false → tA h' = (gtP (tT h0) (tN h0) 10 0 [] []).2.1 → Q (some (.int 0)) h')
    (q1 : ∀ h', HI h' → frm WGT h0 h' → LOX f h0 h' → (gtP (tT h0) (tN h0) 10 0 [] []).1 = true → YM f h' (gtP (tT h0) (tN h0) 10 0 [] []).2.2.1 (gtP (tT h0) (tN h0) 10 0 [] []).2.2.2 → Q (some (.int 1)) h') :
    Ends X (dp + 1 + 1 + 1 + 1 + 1 + 1) 132 0 [.ref 93, .int fv, .retAddr 0] [] h0 Q := by
  have i100 : (100 : Int32).toInt = 100 := rfl
  have e1 : (100 * fv).toInt = ((100 * f : Nat) : Int) := by rw [i_mul (by rw [i100]; omega) (by rw [i100]; omega), i100, hfv]; omega
  refine w_gt0 fv hh.hs ?_
  generalize 100 * fv = v at e1 ⊢
  have eA : tA (hpI (hpI h0 93 12 0) 93 22 v) = 0 := by
    unfold tA
    rw [put_ne (by omega), put_at]
    rfl
  have eT : tT (hpI (hpI h0 93 12 0) 93 22 v) = tT h0 := by funext i; unfold tT; rw [put_ne (by omega), put_ne (by omega)]
  have eN : tN (hpI (hpI h0 93 12 0) 93 22 v) = tN h0 := by unfold tN; rw [put_ne (by omega), put_ne (by omega)]
  have hh1 : HI (hpI (hpI h0 93 12 0) 93 22 v) := HI_put (HI_put hh (by show (0 : Int) ≤ 0; decide) (by show (0 : Int) ≤ 100; decide)) (by show (0 : Int) ≤ _; omega) (by show _ ≤ (600 : Int); omega)
  have L1 : LTR (hpI (hpI h0 93 12 0) 93 22 v) := fun j hj => by rw [put_ne (by omega), put_ne (by omega)]; exact hL j hj
  have lo1 : LOX f h0 (hpI (hpI h0 93 12 0) 93 22 v) := ⟨LW.tr (LW.put (by decide)) (LW.put (by decide)), fun g _ => by rw [put_ne (by omega), put_ne (by omega)], fun c _ _ => ⟨by rw [put_ne (by omega), put_ne (by omega)], by rw [put_ne (by omega), put_ne (by omega)], by rw [put_ne (by omega), put_ne (by omega)], by rw [put_ne (by omega), put_ne (by omega)]⟩⟩
  have go := gtx_go (X := X) (dp := dp) (h0 := h0) (Q := Q) fv hfv hf5 (tT h0) (tN h0) 9 0 [] [] _ hh1 L1 (frm_put (frm_put frm_refl rfl) rfl) lo1 eT eN rfl rfl ⟨by rw [put_at]; exact e1, fun j hj => absurd hj (Nat.not_lt_zero j)⟩ (fun c hc => absurd hc (Nat.not_lt_zero c)) (by rw [eA]; exact Nat.le_refl _) (by rw [eA]; exact Nat.zero_le _)
  rw [eA] at go
  exact go q0 q1
end GTX
theorem yard_x {X : Scr} {dp : Nat} {h : Hp} {Q : Option Value → Hp → Prop} (hh : HI h) (hL : LTR h)
    (q4 : (h.2.1 93 9).toInt = 6 → Q (some (.int (-4))) h)
    (q0 : ¬ (h.2.1 93 9).toInt = 6 → (gtP (tT h) (tN h) 10 0 [] []).1 = false → ∀ (r : Int32) h', HI h' → frm WY h h' → LOX (h.2.1 93 9).toInt.toNat h h' → r.toInt = -10 - ((gtP (tT h) (tN h) 10 0 [] []).2.1 : Int) → h'.2.1 93 9 = h.2.1 93 9 → h'.2.1 93 10 = h.2.1 93 10 → h'.2.1 93 11 = 0 → Q (some (.int r)) h')
    (q1 : ¬ (h.2.1 93 9).toInt = 6 → (gtP (tT h) (tN h) 10 0 [] []).1 = true → ∀ h', HI h' → frm WY h h' → LOX (h.2.1 93 9).toInt.toNat h h' → h'.2.1 93 9 = h.2.1 93 9 + 1 → h'.2.1 93 10 = h.2.1 93 9 → h'.2.1 93 11 = 0 → YM (h.2.1 93 9).toInt.toNat h' (gtP (tT h) (tN h) 10 0 [] []).2.2.1 (gtP (tT h) (tN h) 10 0 [] []).2.2.2 → Q (some (.int (h.2.1 93 9))) h') :
    Ends X (dp + 1 + 1 + 1 + 1 + 1 + 1 + 1) 133 0 [.ref 93, .retAddr 0] [] h Q := by
  have y6 := hh.iv 93 9 (r := (0, 6)) rfl
  simp only at y6
  have i6' : (6 : Int32).toInt = 6 := rfl
  refine w_yard hh.hs ⟨fun e => ?_, fun e => q4 (Decidable.not_not.mp (of_decide_eq_false (cI e)))⟩
  have e : ¬ (h.2.1 93 9).toInt = 6 := of_decide_eq_true (cI e)
  have hf5 : (h.2.1 93 9).toInt.toNat ≤ 5 := by omega
  have sub : ∀ {h'}, frm WGT h h' → frm WY h h' := fun q => frm_sub (V := WGT) (by decide) q
  refine gt_x (f := (h.2.1 93 9).toInt.toNat) (h.2.1 93 9) (by omega) hf5 hh hL (fun h1 a1 a2 a3 a4 a5 => ⟨0, rfl, a1.hs, fun x => absurd x (by decide), fun _ => ?_⟩) (fun h1 a1 a2 a3 a4 a5 => ⟨1, rfl, a1.hs, fun _ => ?_, fun x => absurd x (by decide)⟩)
  · have v12 : (hpI h1 93 11 0).2.1 93 12 = h1.2.1 93 12 := put_ne (by omega)
    rw [v12]
    have ta := tA_v a1
    have j10 : (-10 : Int32).toInt = -10 := rfl
    refine q0 e a4 _ _ (HI_put a1 (by show (0 : Int) ≤ 0; decide) (by show (0 : Int) ≤ 100; decide)) (frm_put (sub a2) rfl) (LOX.tr a3 ⟨LW.put (by decide), fun g _ => put_ne (by omega), fun c _ _ => ⟨put_ne (by omega), put_ne (by omega), put_ne (by omega), put_ne (by omega)⟩⟩) ?_ ?_ ?_ put_at
    · rw [i_sub (by rw [j10]; omega) (by rw [j10]; omega), j10, ta.1, a5]
    · rw [put_ne (by omega), frI a2 rfl]
    · rw [put_ne (by omega), frI a2 rfl]
  · have v9 : (hpI h1 93 11 0).2.1 93 9 = h.2.1 93 9 := by rw [put_ne (by omega), frI a2 rfl]
    rw [v9]
    have v9b : (hpI (hpI h1 93 11 0) 93 10 (h.2.1 93 9)).2.1 93 9 = h.2.1 93 9 := by rw [put_ne (by omega), v9]
    rw [v9b]
    have g : (h.2.1 93 9 + 1).toInt = (h.2.1 93 9).toInt + 1 := by rw [i_add (by rw [i1]; omega) (by rw [i1]; omega), i1]
    generalize hy : h.2.1 93 9 + 1 = y at g q1 ⊢
    have v10 : (hpI (hpI (hpI h1 93 11 0) 93 10 (h.2.1 93 9)) 93 9 y).2.1 93 10 = h.2.1 93 9 := by rw [put_ne (by omega), put_at]
    rw [v10]
    have pn : ∀ a k, ¬ a = 93 → (hpI (hpI (hpI h1 93 11 0) 93 10 (h.2.1 93 9)) 93 9 y).2.1 a k = h1.2.1 a k := fun a k hn => by rw [put_ne (by omega), put_ne (by omega), put_ne (by omega)]
    refine q1 e a4 _ (HI_put (HI_put (HI_put a1 (by show (0 : Int) ≤ 0; decide) (by show (0 : Int) ≤ 100; decide)) (by show (-1 : Int) ≤ _; omega) (by show _ ≤ (5 : Int); omega)) (by show (0 : Int) ≤ _; omega) (by show _ ≤ (6 : Int); omega)) (frm_put (frm_put (frm_put (sub a2) rfl) rfl) rfl) (LOX.tr a3 ⟨fun x _ => pn _ _ (by decide), fun g _ => pn _ _ (by decide), fun c _ _ => ⟨pn _ _ (by decide), pn _ _ (by decide), pn _ _ (by decide), pn _ _ (by decide)⟩⟩) put_at v10 (by rw [put_ne (by omega), put_ne (by omega), put_at]) ⟨by rw [pn _ _ (by decide)]; exact a5.1, fun c hc => by rw [pn _ _ (by decide), pn _ _ (by decide), pn _ _ (by decide), pn _ _ (by decide)]; exact a5.2.1 c hc, fun j hj => by rw [pn _ _ (by decide)]; exact a5.2.2 j hj⟩
