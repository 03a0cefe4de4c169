/-! The reading of the texts of the reference, exactly: E. -/
def eP (T : Nat → Int) (n : Nat) : Nat → Nat → List Int → List Int → Bool → Bool × Nat × List Int × List Int
  | 0, a, ws, sg, _ => (false, a, ws, sg)
  | k + 1, a, ws, sg, true => if nxP T n a = 33 ∨ nxP T n a = 40 then (if opn ws = 4 then (false, a, ws, sg) else eP T n k (a + 1) (nxP T n a :: ws) sg true)
    else match testP T n a with
      | (b, none) => (false, b, ws, sg)
      | (b, some s) => eP T n k b (whlP ws (sg ++ [s])).1 (whlP ws (sg ++ [s])).2 false
  | k + 1, a, ws, sg, false => if nxP T n a = 38 ∨ nxP T n a = 124 then eP T n k (a + 1) (nxP T n a :: (setP (nxP T n a) ws sg).1) (setP (nxP T n a) ws sg).2 true
    else match (setP 124 ws sg).1 with
      | [] => (true, a, [], (setP 124 ws sg).2)
      | w :: r => if nxP T n a = 41 then eP T n k (a + 1) (whlP r (setP 124 ws sg).2).1 (whlP r (setP 124 ws sg).2).2 false else (false, a, w :: r, (setP 124 ws sg).2)
def WSOK (ws : List Int) : Prop := ∀ w ∈ ws, w = 33 ∨ w = 40 ∨ w = 38 ∨ w = 124
theorem whl_len : ∀ (ws sg : List Int), (whlP ws sg).1.length + (whlP ws sg).2.length = ws.length + sg.length
  | [], sg => rfl
  | w :: ws, sg => by
    rw [whlP]
    split
    · rw [whl_len ws]
      simp
      omega
    · rfl
theorem whl_sub : ∀ (ws sg : List Int), ∀ w ∈ (whlP ws sg).1, w ∈ ws
  | [], sg, w, h => h
  | v :: ws, sg, w, h => by
    rw [whlP] at h
    split at h
    · exact List.mem_cons_of_mem _ (whl_sub ws _ w h)
    · exact h
theorem set_len (s : Int) : ∀ (ws sg : List Int), (setP s ws sg).1.length + (setP s ws sg).2.length = ws.length + sg.length
  | [], sg => rfl
  | w :: ws, sg => by
    rw [setP]
    split
    · rw [set_len s ws]
      simp
      omega
    · rfl
theorem set_sub (s : Int) : ∀ (ws sg : List Int), ∀ w ∈ (setP s ws sg).1, w ∈ ws
  | [], sg, w, h => h
  | v :: ws, sg, w, h => by
    rw [setP] at h
    split at h
    · exact List.mem_cons_of_mem _ (set_sub s ws _ w h)
    · exact h
theorem set_top (s : Int) : ∀ (ws sg : List Int) {w : Int} {r : List Int}, (setP s ws sg).1 = w :: r → ¬ (w = 38 ∨ (w = 124 ∧ ¬ s = 38))
  | [], sg, w, r, h => by cases h
  | v :: ws, sg, w, r, h => by
    rw [setP] at h
    split at h
    · exact set_top s ws _ h
    · rename_i hn
      cases h
      exact hn
def WTE (cn : Nat) : List (Nat × Nat) := [(93, 12), (93, 13), (93, 22), (93, 23), (93, 24), (106, 999), (107, 999), (105, cn)]
theorem WTE_T (cn k : Nat) : inW (WTE cn) 100 k = false := rfl
theorem WTE_in {cn k : Nat} : inW (WTE cn) 107 k = true := by simp [inW, WTE]
theorem WTE_c {cn : Nat} : inW (WTE cn) 105 cn = true := by simp [inW, WTE]
theorem sub_TE {cn : Nat} {h h' : Hp} (hf : frm WTT h h') : frm (WTE cn) h h' := frm_sub (W := WTE cn) (by simp [subW, WTT, WTE]) hf
theorem sub_WW {cn : Nat} {h h' : Hp} (hf : frm WW h h') : frm (WTE cn) h h' := frm_sub (W := WTE cn) (by simp [subW, WW, WTE]) hf
section TE2
variable {X : Scr} {dp f : Nat} {h0 : Hp} {Q : Option Value → Hp → Prop}
/-- a sign is laid on what waits, and the place goes on -/
theorem push_ok {h h1 : Hp} (ws sg : List Int) (r : Int32) (hh : HI h) (hp : PSt f h ws sg) (hl : ws.length ≤ 99) (hlt : tA h < tN h) (h24 : (∃ z : Int32, h1 = hpI h 93 24 z ∧ z.toInt = opn (r.toInt :: ws)) ∨ (h1 = h ∧ ¬ (r.toInt = 33 ∨ r.toInt = 40))) :
    inB (h1.2.1 93 23) 101 = true ∧ ∀ (cn : Nat), ∃ h2, hpI (hpI (hpI h1 107 (h1.2.1 93 23).toNatClampNeg r) 93 23 ((hpI h1 107 (h1.2.1 93 23).toNatClampNeg r).2.1 93 23 + 1)) 93 12 ((hpI (hpI h1 107 (h1.2.1 93 23).toNatClampNeg r) 93 23 ((hpI h1 107 (h1.2.1 93 23).toNatClampNeg r).2.1 93 23 + 1)).2.1 93 12 + 1) = h2 ∧ HI h2 ∧ frm (WTE cn) h h2 ∧ LW f h h2 ∧ tA h2 = tA h + 1 ∧ PSt f h2 (r.toInt :: ws) sg := by
  obtain ⟨p1, p2, p3, p4, p5⟩ := hp
  have e23 : h1.2.1 93 23 = h.2.1 93 23 := by
    rcases h24 with ⟨z, e, _⟩ | ⟨e, _⟩
    · rw [e, put_ne (by omega)]
    · rw [e]
  have e12 : h1.2.1 93 12 = h.2.1 93 12 := by
    rcases h24 with ⟨z, e, _⟩ | ⟨e, _⟩
    · rw [e, put_ne (by omega)]
    · rw [e]
  have hh1 : HI h1 := by
    rcases h24 with ⟨z, e, _⟩ | ⟨e, _⟩
    · rw [e]; exact HI_put hh (i32r z).1 (i32r z).2
    · rw [e]; exact hh
  have a24 : (h1.2.1 93 24).toInt = opn (r.toInt :: ws) := by
    rcases h24 with ⟨z, e, hz⟩ | ⟨e, hn⟩
    · rw [e, put_at, hz]
    · rw [opn_cons, e, if_neg hn, p2]
      omega
  have efr : ∀ a k, ¬ (a = 93 ∧ k = 24) → h1.2.1 a k = h.2.1 a k := by
    intro a k hn
    rcases h24 with ⟨z, e, _⟩ | ⟨e, _⟩
    · rw [e, put_ne (by omega)]
    · rw [e]
  have q : (h1.2.1 93 23).toNatClampNeg = ws.length := by rw [e23]; show (h.2.1 93 23).toInt.toNat = _; omega
  refine ⟨by rw [e23]; exact inB_iff (by omega) (by omega), fun cn => ⟨_, rfl, ?_⟩⟩
  rw [q]
  have v23 : (hpI h1 107 ws.length r).2.1 93 23 = h.2.1 93 23 := by rw [put_ne (by omega), e23]
  rw [v23]
  have g23 : (h.2.1 93 23 + 1).toInt = ((ws.length + 1 : Nat) : Int) := by rw [i_add (by rw [i1]; omega) (by rw [i1]; omega), i1]; omega
  generalize h.2.1 93 23 + 1 = u at g23 ⊢
  have v12 : (hpI (hpI h1 107 ws.length r) 93 23 u).2.1 93 12 = h.2.1 93 12 := by rw [put_ne (by omega), put_ne (by omega), e12]
  rw [v12]
  obtain ⟨a1, a2⟩ := tA_v hh
  obtain ⟨b1, b2⟩ := tN_v hh
  have g12 : (h.2.1 93 12 + 1).toInt = ((tA h + 1 : Nat) : Int) := by rw [i_add (by rw [i1]; omega) (by rw [i1]; omega), i1]; omega
  generalize h.2.1 93 12 + 1 = y at g12 ⊢
  have f1 : frm (WTE cn) h h1 := by
    rcases h24 with ⟨z, e, _⟩ | ⟨e, _⟩
    · rw [e]; exact frm_put frm_refl rfl
    · rw [e]; exact frm_refl
  refine ⟨HI_put (HI_put (HI_put hh1 (i32r r).1 (i32r r).2) (by show (0 : Int) ≤ _; omega) (by show _ ≤ (101 : Int); omega)) (by show (0 : Int) ≤ _; omega) (by show _ ≤ (100 : Int); omega), frm_put (frm_put (frm_put f1 WTE_in) rfl) rfl, fun x hx => ?_, ?_, ?_, ?_, ?_, fun j hj => ?_, fun j hj => ?_⟩
  · rw [put_ne (by omega), put_ne (by omega), put_ne (by omega), efr _ _ (by omega)]
  · show ((hpI (hpI (hpI h1 107 ws.length r) 93 23 u) 93 12 y).2.1 93 12).toInt.toNat = _
    rw [put_at]
    omega
  · rw [put_ne (by omega), put_at, g23]
    simp
  · rw [put_ne (by omega), put_ne (by omega), put_ne (by omega)]; exact a24
  · rw [put_ne (by omega), put_ne (by omega), put_ne (by omega), efr _ _ (by omega)]; exact p3
  · rw [put_ne (by omega), put_ne (by omega)]
    simp only [List.length_cons] at hj ⊢
    by_cases c : j = ws.length
    · rw [c, put_at, show ws.length + 1 - 1 - ws.length = 0 by omega]
      rfl
    · rw [put_ne (by omega), efr _ _ (by omega), p4 j (by omega), show ws.length + 1 - 1 - j = (ws.length - 1 - j) + 1 by omega]
      simp
  · rw [put_ne (by omega), put_ne (by omega), put_ne (by omega), efr _ _ (by omega)]; exact p5 j hj
theorem numP_le2 {T : Nat → Int} {n a b : Nat} {v : Int} (hn : numP T n a = some (v, b)) : a + 1 ≤ b ∧ b ≤ n := by
  have nd : ∀ a, isD (nxP T n a) = true → a < n := by
    intro a h
    unfold isD nxP at h
    simp only [Bool.and_eq_true, decide_eq_true_eq] at h
    split at h <;> omega
  unfold numP at hn
  split at hn
  · rename_i d
    have := nd _ d
    split at hn
    · rename_i d2
      have := nd _ d2
      cases hn
      omega
    · cases hn
      omega
  · cases hn
theorem testP_le {T : Nat → Int} {n a b : Nat} {s : Int} (hn : testP T n a = (b, some s)) : a + 3 ≤ b ∧ b ≤ n := by
  unfold testP at hn
  split at hn
  · cases hn
  · split at hn
    · cases hn
    · split at hn
      · cases hn
      · rename_i v b' e
        cases hn
        have := numP_le2 e
        omega
/-- a ) closes -/
theorem cls_ok {h : Hp} (w : Int) (ws sg : List Int) (hh : HI h) (hp : PSt f h (w :: ws) sg) (hl : ws.length ≤ 99) (hw : w = 33 ∨ w = 40) (hlt : tA h < tN h) (cn : Nat) :
    ∃ h2, hpI (hpI (hpI h 93 23 (h.2.1 93 23 - 1)) 93 24 ((hpI h 93 23 (h.2.1 93 23 - 1)).2.1 93 24 - 1)) 93 12 ((hpI (hpI h 93 23 (h.2.1 93 23 - 1)) 93 24 ((hpI h 93 23 (h.2.1 93 23 - 1)).2.1 93 24 - 1)).2.1 93 12 + 1) = h2 ∧ HI h2 ∧ frm (WTE cn) h h2 ∧ LW f h h2 ∧ tA h2 = tA h + 1 ∧ PSt f h2 ws sg := by
  refine ⟨_, rfl, ?_⟩
  obtain ⟨p1, p2, p3, p4, p5⟩ := id hp
  simp only [List.length_cons] at p1
  have g23 : (h.2.1 93 23 - 1).toInt = ws.length := by rw [i_sub (by rw [i1]; omega) (by rw [i1]; omega), i1]; omega
  have tp := hp.pop g23
  generalize h.2.1 93 23 - 1 = u at g23 ⊢
  have v24 : (hpI h 93 23 u).2.1 93 24 = h.2.1 93 24 := put_ne (by omega)
  rw [v24]
  have o1 := opn_cons w ws
  rw [if_pos hw] at o1
  have ho : opn ws ≤ ws.length := List.length_filter_le _ _
  have g24 : (h.2.1 93 24 - 1).toInt = opn ws := by rw [i_sub (by rw [i1]; omega) (by rw [i1]; omega), i1]; omega
  generalize h.2.1 93 24 - 1 = z at g24 ⊢
  have v12 : (hpI (hpI h 93 23 u) 93 24 z).2.1 93 12 = h.2.1 93 12 := by rw [put_ne (by omega), put_ne (by omega)]
  rw [v12]
  obtain ⟨a1, a2⟩ := tA_v hh
  obtain ⟨b1, b2⟩ := tN_v hh
  have g12 : (h.2.1 93 12 + 1).toInt = ((tA h + 1 : Nat) : Int) := by rw [i_add (by rw [i1]; omega) (by rw [i1]; omega), i1]; omega
  generalize h.2.1 93 12 + 1 = y at g12 ⊢
  refine ⟨HI_put (HI_put (HI_put hh (by show (0 : Int) ≤ _; omega) (by show _ ≤ (101 : Int); omega)) (i32r z).1 (i32r z).2) (by show (0 : Int) ≤ _; omega) (by show _ ≤ (100 : Int); omega), frm_put (frm_put (frm_put frm_refl rfl) rfl) rfl, fun x hx => ?_, ?_, ?_, ?_, ?_, fun j hj => ?_, fun j hj => ?_⟩
  · rw [put_ne (by omega), put_ne (by omega), put_ne (by omega)]
  · show ((hpI (hpI (hpI h 93 23 u) 93 24 z) 93 12 y).2.1 93 12).toInt.toNat = _
    rw [put_at]
    omega
  · rw [put_ne (by omega), put_ne (by omega), put_at]; exact g23
  · rw [put_ne (by omega), put_at]; exact g24
  · rw [put_ne (by omega), put_ne (by omega), put_ne (by omega)]; exact p3
  · rw [put_ne (by omega), put_ne (by omega), put_ne (by omega)]; exact tp.2.2 j hj
  · rw [put_ne (by omega), put_ne (by omega), put_ne (by omega)]; exact p5 j hj
set_option maxHeartbeats 1000000 in
theorem te_loop (c : Int32) (cn : Nat) (hc : c.toInt = cn) (hcn : cn < 60) (hf5 : f ≤ 5)
    (K a0 : Nat) (ws0 sg0 : List Int) (wt0 : Bool)
    (hQ : ∀ (ok : Bool) h' ws' sg', HI h' → frm (WTE cn) h0 h' → LW f h0 h' → PSt f h' ws' sg' → eP (tT h0) (tN h0) K a0 ws0 sg0 wt0 = (ok, tA h', ws', sg') → (ok = true → h'.2.1 105 cn = h'.2.1 93 22) → Q (some (.int (b2i ok))) h') :
    ∀ (k : Nat) (ws sg : List Int) (wt : Bool) (w : Int32) (b : Value) (h : Hp), HI h → frm (WTE cn) h0 h → LW f h0 h → PSt f h ws sg → WSOK ws → sg.length + ws.length ≤ tA h → tA h ≤ tN h0 → tN h0 < tA h + k → (w.toInt = 0 ↔ wt = false) → eP (tT h0) (tN h0) K a0 ws0 sg0 wt0 = eP (tT h0) (tN h0) k (tA h) ws sg wt →
    Ends X (dp + 1 + 1 + 1 + 1) 129 22 [.ref 93, .int c, .int w, b] [] h Q
  | 0, ws, sg, wt, w, b, h, hh, hf, hlw, hp, hok, hl, hle, hk, hw, he => by omega
  | k + 1, ws, sg, wt, w, b, h, hh, hf, hlw, hp, hok, hl, hle, hk, hw, he => by
    have ih := te_loop c cn hc hcn hf5 K a0 ws0 sg0 wt0 hQ k
    have eT : tT h = tT h0 := tT_fr hf (WTE_T cn)
    have eN : tN h = tN h0 := tN_fr hf rfl
    have hcc : c.toNatClampNeg = cn := by show c.toInt.toNat = _; omega
    obtain ⟨n1, n2, n3⟩ := nx_rng hh
    rw [eT, eN] at n1 n2 n3
    obtain ⟨tv, t100⟩ := tA_v hh
    have tn100 := (tN_v hh).2
    rw [eN] at tn100
    refine w_te1 c w b hh.hs (nx_ok hh (fun r hr => ⟨r, rfl, hh.hs, fun e => ?_, fun e => ?_⟩))
    all_goals rw [eT, eN] at hr
    · have e : w.toInt = 0 := of_decide_eq_true (cI e)
      have hwt : wt = false := hw.mp e
      subst hwt
      rw [eP] at he
      have jn : (r.toInt = 38 ∨ r.toInt = 124) → Ends X (dp + 1 + 1 + 1) 126 0 [.ref 93, .int r] [] h (fun rv h6 => rv = none ∧ HS h6 ∧ (inB (h6.2.1 93 23) 101 = true ∧ Ends X (dp + 1 + 1 + 1 + 1) 129 22 [.ref 93, .int c, .int 1, .int r] [] (hpI (hpI (hpI h6 107 (h6.2.1 93 23).toNatClampNeg r) 93 23 (((hpI h6 107 (h6.2.1 93 23).toNatClampNeg r).2.1 93 23) + 1)) 93 12 (((hpI (hpI h6 107 (h6.2.1 93 23).toNatClampNeg r) 93 23 (((hpI h6 107 (h6.2.1 93 23).toNatClampNeg r).2.1 93 23) + 1)).2.1 93 12) + 1)) Q)) := by
        intro hj
        rw [hr] at hj
        rw [if_pos hj] at he
        refine set_ok hf5 r _ hr ws sg h hh hp (by omega) (fun h6 hh6 f6 l6 s6 => ⟨rfl, hh6.hs, ?_⟩)
        have sl := set_len (nxP (tT h0) (tN h0) (tA h)) ws sg
        have hA6 : tA h6 = tA h := by unfold tA; rw [frI f6 rfl]
        have hN6 : tN h6 = tN h := tN_fr f6 rfl
        have lt := n3 (by omega)
        obtain ⟨pi, pp⟩ := push_ok (h1 := h6) _ _ r hh6 s6 (by omega) (by rw [hA6, hN6, eN]; exact lt) (Or.inr ⟨rfl, by omega⟩)
        refine ⟨pi, ?_⟩
        obtain ⟨h7, e7, hh7, f7, l7, a7, s7⟩ := pp cn
        rw [e7]
        rw [hr] at s7
        refine ih _ _ true 1 _ h7 hh7 (frm_trans hf (frm_trans (sub_WW f6) f7)) (LW.tr hlw (LW.tr l6 l7)) s7 ?_ (by simp; omega) (by omega) (by omega) (by constructor <;> intro q <;> cases q) (by rw [he, a7, hA6])
        intro x hx
        rcases List.mem_cons.mp hx with q | q
        · omega
        · exact hok x (set_sub _ _ _ x q)
      refine ⟨fun e2 => jn (Or.inl (of_decide_eq_true (cI e2))), fun e2 => ⟨fun e3 => ?_, fun e3 => jn (Or.inr (Decidable.not_not.mp (of_decide_eq_false (cI e3))))⟩⟩
      have e2 : ¬ r.toInt = 38 := of_decide_eq_false (cI e2)
      have e3 : ¬ r.toInt = 124 := of_decide_eq_true (cI e3)
      rw [hr] at e2 e3
      rw [if_neg (by omega)] at he
      refine set_ok hf5 124 124 rfl ws sg h hh hp (by omega) (fun h6 hh6 f6 l6 s6 => ⟨rfl, hh6.hs, inB_iff (by omega) (by omega), ?_⟩)
      have sl := set_len 124 ws sg
      have stp := fun w r => set_top 124 ws sg (w := w) (r := r)
      have ssb := set_sub 124 ws sg
      rw [hcc]
      have hA6 : tA h6 = tA h := by unfold tA; rw [frI f6 rfl]
      have hN6 : tN h6 = tN h := tN_fr f6 rfl
      generalize (setP 124 ws sg).1 = wr at *
      generalize (setP 124 ws sg).2 = sgr at *
      have sb := hh6.iv 93 22 (r := (0, 600)) rfl
      have hh7 : HI (hpI h6 105 cn (h6.2.1 93 22)) := HI_put hh6 (by show (0 : Int) ≤ _; exact sb.1) (by show _ ≤ (600 : Int); exact sb.2)
      have f7 : frm (WTE cn) h (hpI h6 105 cn (h6.2.1 93 22)) := frm_put (sub_WW f6) WTE_c
      have l7 : LW f h (hpI h6 105 cn (h6.2.1 93 22)) := LW.tr l6 (LW.put (by decide))
      have s7 : PSt f (hpI h6 105 cn (h6.2.1 93 22)) wr sgr := by
        obtain ⟨q1, q2, q3, q4, q5⟩ := s6
        exact ⟨by rw [put_ne (by omega)]; exact q1, by rw [put_ne (by omega)]; exact q2, by rw [put_ne (by omega)]; exact q3, fun j hj => by rw [put_ne (by omega)]; exact q4 j hj, fun j hj => by rw [put_ne (by omega)]; exact q5 j hj⟩
      have to7 : (hpI h6 105 cn (h6.2.1 93 22)).2.1 105 cn = (hpI h6 105 cn (h6.2.1 93 22)).2.1 93 22 := by rw [put_at, put_ne (by omega)]
      have hA7 : tA (hpI h6 105 cn (h6.2.1 93 22)) = tA h := by unfold tA at hA6 ⊢; rw [put_ne (by omega)]; exact hA6
      have hN7 : tN (hpI h6 105 cn (h6.2.1 93 22)) = tN h0 := by unfold tN at hN6 eN ⊢; rw [put_ne (by omega), hN6]; exact eN
      generalize hpI h6 105 cn (h6.2.1 93 22) = h7 at hh7 f7 l7 s7 to7 hA7 hN7 ⊢
      match wr, s7, he, sl, stp, ssb with
      | [], s7, he, _, _, _ =>
        refine ⟨fun e4 => ?_, fun e4 => hQ true h7 _ _ hh7 (frm_trans hf f7) (LW.tr hlw l7) s7 (by rw [he, hA7]) (fun _ => to7)⟩
        exfalso
        have e4 : ¬ (h7.2.1 93 23).toInt = 0 := of_decide_eq_true (cI e4)
        exact e4 s7.1
      | v :: rr, s7, he, sl, stp, ssb =>
        refine ⟨fun e4 => ⟨fun e5 => ?_, fun e5 => ?_⟩, fun e4 => ?_⟩
        · have e5 : r.toInt = 41 := of_decide_eq_true (cI e5)
          rw [hr] at e5
          rw [e5] at he
          simp only at he
          rw [if_pos trivial] at he
          have hv := hok v (ssb v List.mem_cons_self)
          have hnt := stp v rr rfl
          simp only [List.length_cons] at sl
          obtain ⟨h8, e8, hh8, f8, l8, a8, s8⟩ := cls_ok v rr sgr hh7 s7 (by omega) (by omega) (by rw [hA7, hN7]; exact n3 (by omega)) cn
          rw [e8]
          refine whl_ok hf5 rr sgr h8 hh8 s8 (by omega) (fun h9 hh9 f9 l9 s9 => ⟨rfl, hh9.hs, ?_⟩)
          have wl := whl_len rr sgr
          have hA9 : tA h9 = tA h + 1 := by rw [← hA7, ← a8]; unfold tA; rw [frI f9 rfl]
          refine ih _ _ false w _ h9 hh9 (frm_trans hf (frm_trans f7 (frm_trans f8 (sub_WW f9)))) (LW.tr hlw (LW.tr l7 (LW.tr l8 l9))) s9 (fun x hx => hok x (ssb x (List.mem_cons_of_mem _ (whl_sub _ _ x hx)))) (by omega) (by have := n3 (by omega); omega) (by omega) ⟨fun _ => rfl, fun _ => e⟩ (by rw [he, hA9])
        · have e5 : ¬ r.toInt = 41 := of_decide_eq_false (cI e5)
          rw [hr] at e5
          simp only at he
          rw [if_neg e5] at he
          exact hQ false h7 _ _ hh7 (frm_trans hf f7) (LW.tr hlw l7) s7 (by rw [he, hA7]) (fun q => by cases q)
        · exfalso
          have e4 : ¬ ¬ (h7.2.1 93 23).toInt = 0 := of_decide_eq_false (cI e4)
          rw [s7.1] at e4
          simp only [List.length_cons] at e4
          omega
    · have e : ¬ w.toInt = 0 := of_decide_eq_false (cI e)
      have hwt : wt = true := by
        cases wt with
        | true => rfl
        | false => exact absurd (hw.mpr rfl) e
      subst hwt
      rw [eP] at he
      have op : (r.toInt = 33 ∨ r.toInt = 40) → ((condB .ne (h.2.1 93 24) 4 = true → (inB ((hpI h 93 24 ((h.2.1 93 24) + 1)).2.1 93 23) 101 = true ∧ Ends X (dp + 1 + 1 + 1 + 1) 129 22 [.ref 93, .int c, .int w, .int r] [] (hpI (hpI (hpI (hpI h 93 24 ((h.2.1 93 24) + 1)) 107 ((hpI h 93 24 ((h.2.1 93 24) + 1)).2.1 93 23).toNatClampNeg r) 93 23 (((hpI (hpI h 93 24 ((h.2.1 93 24) + 1)) 107 ((hpI h 93 24 ((h.2.1 93 24) + 1)).2.1 93 23).toNatClampNeg r).2.1 93 23) + 1)) 93 12 (((hpI (hpI (hpI h 93 24 ((h.2.1 93 24) + 1)) 107 ((hpI h 93 24 ((h.2.1 93 24) + 1)).2.1 93 23).toNatClampNeg r) 93 23 (((hpI (hpI h 93 24 ((h.2.1 93 24) + 1)) 107 ((hpI h 93 24 ((h.2.1 93 24) + 1)).2.1 93 23).toNatClampNeg r).2.1 93 23) + 1)).2.1 93 12) + 1)) Q)) ∧ (condB .ne (h.2.1 93 24) 4 = false → Q (some (.int 0)) h)) := by
        intro hj
        have hj2 := hj
        rw [hr] at hj2
        rw [if_pos hj2] at he
        have lt := n3 (by omega)
        have o24 := hp.2.1
        have ho : opn ws ≤ ws.length := List.length_filter_le _ _
        refine ⟨fun e2 => ?_, fun e2 => ?_⟩
        · have e2 : ¬ (h.2.1 93 24).toInt = 4 := of_decide_eq_true (cI e2)
          rw [if_neg (by omega)] at he
          have g24 : (h.2.1 93 24 + 1).toInt = opn (r.toInt :: ws) := by rw [opn_cons, if_pos hj, i_add (by rw [i1]; omega) (by rw [i1]; omega), i1]; omega
          generalize h.2.1 93 24 + 1 = z at g24 ⊢
          obtain ⟨pi, pp⟩ := push_ok (h1 := hpI h 93 24 z) ws sg r hh hp (by omega) (by rw [eN]; exact lt) (Or.inl ⟨z, rfl, g24⟩)
          refine ⟨pi, ?_⟩
          obtain ⟨h7, e7, hh7, f7, l7, a7, s7⟩ := pp cn
          rw [e7]
          rw [hr] at s7
          refine ih _ _ true w _ h7 hh7 (frm_trans hf f7) (LW.tr hlw l7) s7 ?_ (by simp; omega) (by omega) (by omega) ⟨fun q => absurd q e, fun q => by cases q⟩ (by rw [he, a7])
          intro x hx
          rcases List.mem_cons.mp hx with q | q
          · omega
          · exact hok x q
        · have e2 : ¬ ¬ (h.2.1 93 24).toInt = 4 := of_decide_eq_false (cI e2)
          rw [if_pos (by omega)] at he
          exact hQ false h _ _ hh hf hlw hp he (fun q => by cases q)
      refine ⟨fun e2 => op (Or.inl (of_decide_eq_true (cI e2))), fun e2 => ⟨fun e3 => ?_, fun e3 => op (Or.inr (Decidable.not_not.mp (of_decide_eq_false (cI e3))))⟩⟩
      have e2 : ¬ r.toInt = 33 := of_decide_eq_false (cI e2)
      have e3 : ¬ r.toInt = 40 := of_decide_eq_true (cI e3)
      rw [hr] at e2 e3
      rw [if_neg (by omega)] at he
      refine ts_ok ws sg hf5 hh hp hl (fun ok h2 hh2 f2 l2 hm => ⟨_, rfl, hh2.hs, fun e4 => ?_, fun e4 => ?_⟩)
      all_goals rw [eT, eN] at hm
      · have e4 := cz e4
        subst e4
        cases hts : testP (tT h0) (tN h0) (tA h) with
        | mk b o =>
          rw [hts] at hm he
          cases o with
          | none =>
            simp only at hm he
            exact hQ false h2 _ _ hh2 (frm_trans hf (sub_TE f2)) (LW.tr hlw l2) hm.2.2 (by rw [he, hm.2.1]) (fun q => by cases q)
          | some s => exact absurd hm.1 (by decide)
      · have e4 := (nb.mp (of_decide_eq_false (cI e4)) : ok = true)
        subst e4
        cases hts : testP (tT h0) (tN h0) (tA h) with
        | mk b o =>
          rw [hts] at hm he
          cases o with
          | none => exact absurd hm.1 (by decide)
          | some s =>
            simp only at hm he
            obtain ⟨-, m1, m2⟩ := hm
            have wl := whl_len ws (sg ++ [s])
            simp only [List.length_append, List.length_singleton] at wl
            have tl := testP_le hts
            refine ih _ _ false 0 _ h2 hh2 (frm_trans hf (sub_TE f2)) (LW.tr hlw l2) m2 (fun x hx => hok x (whl_sub _ _ x hx)) (by omega) (by omega) (by omega) ⟨fun _ => rfl, fun _ => rfl⟩ (by rw [he, m1])
end TE2
