/-! Clauses and yards that are read. -/
theorem wrdP_le (T : Nat → Int) (n : Nat) : ∀ (l : List Int) (a : Nat), (∀ c ∈ l, 0 ≤ c) → a ≤ (wrdP T n l a).2 ∧ (a ≤ n → (wrdP T n l a).2 ≤ n)
  | [], a, _ => by
    rw [wrdP]
    split
    · rename_i h
      have := nx_lt (T := T) (n := n) (a := a) (by omega)
      exact ⟨by show a ≤ a + 1; omega, fun _ => by show a + 1 ≤ n; omega⟩
    · exact ⟨Nat.le_refl _, fun h => h⟩
  | c :: l, a, hc => by
    rw [wrdP]
    split
    · rename_i h
      have h0 := hc c List.mem_cons_self
      have := nx_lt (T := T) (n := n) (a := a) (by omega)
      have ih := wrdP_le T n l (a + 1) (fun x hx => hc x (List.mem_cons_of_mem _ hx))
      exact ⟨by omega, fun _ => ih.2 (by omega)⟩
    · exact ⟨Nat.le_refl _, fun h => h⟩
def SGp (f : Nat) (h : Hp) (sg : List Int) : Prop := (h.2.1 93 22).toInt = ((100 * f + sg.length : Nat) : Int) ∧ ∀ j, j < sg.length → (h.2.1 106 (100 * f + j)).toInt = sg.getD j 0
theorem SGp.fr {W : List (Nat × Nat)} {f : Nat} {h h' : Hp} {sg : List Int} (hp : SGp f h sg) (hf : frm W h h') (w1 : inW W 93 22 = false) (w4 : ∀ k, inW W 106 k = false) : SGp f h' sg :=
  ⟨by rw [frI hf w1]; exact hp.1, fun j hj => by rw [frI hf (w4 _)]; exact hp.2 j hj⟩
def WHD (cn : Nat) : List (Nat × Nat) := [(93, 12), (102, cn)]
def WCL (cn : Nat) : List (Nat × Nat) := [(93, 12), (93, 13), (93, 22), (93, 23), (93, 24), (106, 999), (107, 999), (105, cn), (104, cn), (102, cn), (103, cn)]
theorem sub_HD {cn : Nat} {h h' : Hp} (hf : frm (WHD cn) h h') : frm (WCL cn) h h' := frm_sub (W := WCL cn) (by simp [subW, WHD, WCL]) hf
theorem sub_TE2 {cn : Nat} {h h' : Hp} (hf : frm (WTE cn) h h') : frm (WCL cn) h h' := frm_sub (W := WCL cn) (by simp [subW, WTE, WCL]) hf
theorem sub_WD2 {cn : Nat} {h h' : Hp} (hf : frm WD h h') : frm (WCL cn) h h' := frm_sub (W := WCL cn) (by simp [subW, WD, WCL]) hf
theorem sub_WA2 {cn : Nat} {h h' : Hp} (hf : frm WA h h') : frm (WCL cn) h h' := frm_sub (W := WCL cn) (by simp [subW, WA, WCL]) hf
theorem WCL_102 {cn : Nat} : inW (WCL cn) 102 cn = true := by simp [inW, WCL]
theorem WCL_103 {cn : Nat} : inW (WCL cn) 103 cn = true := by simp [inW, WCL]
theorem WCL_104 {cn : Nat} : inW (WCL cn) 104 cn = true := by simp [inW, WCL]
section CLS
variable {X : Scr} {dp f : Nat} {h : Hp} {Q : Option Value → Hp → Prop}
theorem hd_s (c : Int32) (cn : Nat) (hc : c.toInt = cn) (hcn : cn < 60) (hh : HI h) (hle : tA h ≤ tN h)
    (hQ : ∀ (ok : Bool) h', HI h' → frm (WHD cn) h h' → tA h ≤ tA h' → tA h' ≤ tN h → Q (some (.int (b2i ok))) h') : Ends X (dp + 1 + 1 + 1) 130 0 [.ref 93, .int c] [] h Q := by
  have hcc : c.toNatClampNeg = cn := by show c.toInt.toNat = _; omega
  have hi : inB c 60 = true := inB_iff (by omega) (by omega)
  have go : ∀ (a b v : Int32) (an bn : Nat), a.toInt = an → b.toInt = bn → an + bn ≤ 14 → 0 ≤ v.toInt → v.toInt ≤ 2 → Ends X (dp + 1 + 1) 121 0 [.ref 93, .int a, .int b, .retAddr 0] [] (hpI h 102 c.toNatClampNeg v) (fun rv h6 => ∃ r7, rv = some (.int r7) ∧ HS h6 ∧ (r7 = 0 ∨ r7 = 1) ∧ Q (some (.int r7)) h6) := by
    intro a b v an bn ha hb hab hv1 hv2
    rw [hcc]
    have hh1 : HI (hpI h 102 cn v) := HI_put hh (by show (0 : Int) ≤ _; omega) (by show _ ≤ (2 : Int); omega)
    have eA : tA (hpI h 102 cn v) = tA h := by unfold tA; rw [put_ne (by omega)]
    have eN : tN (hpI h 102 cn v) = tN h := by unfold tN; rw [put_ne (by omega)]
    refine tw_ok a b an bn ha hb hab hh1 (fun ok h' a1 a2 a3 => ⟨_, rfl, a1.hs, b2i_01 _, ?_⟩)
    have wl := wrdP_le (tT (hpI h 102 cn v)) (tN (hpI h 102 cn v)) ((List.range bn).map (fun k => ((hpI h 102 cn v).2.1 108 (an + k)).toInt)) (tA (hpI h 102 cn v)) (fun x hx => by
      obtain ⟨k, -, rfl⟩ := List.mem_map.mp hx
      have := hh1.iv 108 (an + k) (r := (0, 127)) rfl
      simp only at this
      exact this.1)
    rw [← a3, eA, eN] at wl
    exact hQ ok h' a1 (frm_trans (frm_put frm_refl (by simp [inW, WHD])) (frm_sub (V := WA) (by simp [subW, WA, WHD]) a2)) wl.1 (wl.2 hle)
  refine w_head c hh.hs (nx_ok hh (fun r hr => ⟨r, rfl, hh.hs, fun e => ⟨hi, ?_⟩, fun e => ⟨hi, ?_⟩, fun e => ⟨hi, ?_⟩⟩))
  · exact go 9 5 2 9 5 rfl rfl (by omega) (by decide) (by decide)
  · exact go 5 4 1 5 4 rfl rfl (by omega) (by decide) (by decide)
  · exact go 0 5 0 0 5 rfl rfl (by omega) (by decide) (by decide)
theorem te_s (c : Int32) (cn : Nat) (hc : c.toInt = cn) (hcn : cn < 60) (hf5 : f ≤ 5) (sg : List Int) (hh : HI h) (hp : SGp f h sg) (hl : sg.length ≤ tA h) (hle : tA h ≤ tN h)
    (q0 : ∀ h', HI h' → frm (WCL cn) h h' → LW f h h' → Q (some (.int 0)) h')
    (q1 : ∀ h' E, HI h' → frm (WCL cn) h h' → LW f h h' → SGp f h' (sg ++ E) → (sg ++ E).length ≤ tA h' → tA h' ≤ tN h → (h'.2.1 104 cn).toInt = ((100 * f + sg.length : Nat) : Int) → (h'.2.1 105 cn).toInt = ((100 * f + (sg ++ E).length : Nat) : Int) → dpt E 0 = some 1 → Q (some (.int 1)) h') :
    Ends X (dp + 1 + 1 + 1 + 1) 129 0 [.ref 93, .int c, .retAddr 0, .retAddr 0] [] h Q := by
  have hcc : c.toNatClampNeg = cn := by show c.toInt.toNat = _; omega
  refine w_te0 c hh.hs ⟨inB_iff (by omega) (by omega), ?_⟩
  rw [hcc]
  have v22 : (hpI (hpI h 93 23 0) 93 24 0).2.1 93 22 = h.2.1 93 22 := by rw [put_ne (by omega), put_ne (by omega)]
  rw [v22]
  have b22 := hh.iv 93 22 (r := (0, 600)) rfl
  have hh1 : HI (hpI (hpI (hpI h 93 23 0) 93 24 0) 104 cn (h.2.1 93 22)) := HI_put (HI_put (HI_put hh (by show (0 : Int) ≤ 0; decide) (by show (0 : Int) ≤ 101; decide)) (i32r 0).1 (i32r 0).2) (by show (0 : Int) ≤ _; exact b22.1) (by show _ ≤ (600 : Int); exact b22.2)
  have f1 : frm (WCL cn) h (hpI (hpI (hpI h 93 23 0) 93 24 0) 104 cn (h.2.1 93 22)) := frm_put (frm_put (frm_put frm_refl rfl) rfl) WCL_104
  have l1 : LW f h (hpI (hpI (hpI h 93 23 0) 93 24 0) 104 cn (h.2.1 93 22)) := LW.tr (LW.tr (LW.put (by decide)) (LW.put (by decide))) (LW.put (by decide))
  have e104 : ((hpI (hpI (hpI h 93 23 0) 93 24 0) 104 cn (h.2.1 93 22)).2.1 104 cn).toInt = ((100 * f + sg.length : Nat) : Int) := by rw [put_at]; exact hp.1
  have eA : tA (hpI (hpI (hpI h 93 23 0) 93 24 0) 104 cn (h.2.1 93 22)) = tA h := by unfold tA; rw [put_ne (by omega), put_ne (by omega), put_ne (by omega)]
  have eN : tN (hpI (hpI (hpI h 93 23 0) 93 24 0) 104 cn (h.2.1 93 22)) = tN h := by unfold tN; rw [put_ne (by omega), put_ne (by omega), put_ne (by omega)]
  have s1 : PSt f (hpI (hpI (hpI h 93 23 0) 93 24 0) 104 cn (h.2.1 93 22)) [] sg := ⟨by rw [put_ne (by omega), put_ne (by omega), put_at]; rfl, by rw [put_ne (by omega), put_at]; rfl, by rw [put_ne (by omega), put_ne (by omega), put_ne (by omega)]; exact hp.1, fun j hj => by simp at hj, fun j hj => by rw [put_ne (by omega), put_ne (by omega), put_ne (by omega)]; exact hp.2 j hj⟩
  generalize hpI (hpI (hpI h 93 23 0) 93 24 0) 104 cn (h.2.1 93 22) = h1 at *
  refine te_loop (h0 := h1) c cn hc hcn hf5 (tN h1 + 1) (tA h1) [] sg true (fun ok h' ws' sg' a1 a2 a3 a4 a5 a6 => ?_) (tN h1 + 1) [] sg true 1 _ h1 hh1 frm_refl LW.rf s1 (fun w hw => by cases hw) (by rw [eA]; simpa using hl) (by rw [eA, eN]; exact hle) (by omega) (by constructor <;> intro q <;> cases q) rfl
  have f2 := frm_trans f1 (sub_TE2 a2)
  have l2 := LW.tr l1 a3
  cases ok with
  | false => exact q0 h' a1 f2 l2
  | true =>
    have inv := eP_inv (tT h1) (tN h1) sg (tN h1 + 1) (tA h1) [] [] true (tA h') ws' sg' (by rw [eA, eN]; exact hle) (by rw [eA]; simpa using hl) (fun w hw => by cases hw) rfl (by rw [List.append_nil]; exact a5)
    obtain ⟨rfl, i2, i3, E, rfl, i4⟩ := inv
    have a6 := a6 rfl
    refine q1 h' E a1 f2 l2 ⟨a4.2.2.1, a4.2.2.2.2⟩ i3 (by rw [← eN]; exact i2) ?_ ?_ i4
    · rw [frI a2 (by rfl)]
      exact e104
    · rw [a6]
      exact a4.2.2.1
theorem cl_s (c : Int32) (cn : Nat) (hc : c.toInt = cn) (hcn : cn < 60) (hf5 : f ≤ 5) (sg : List Int) (hh : HI h) (hp : SGp f h sg) (hl : sg.length ≤ tA h) (hle : tA h ≤ tN h)
    (q0 : ∀ h', HI h' → frm (WCL cn) h h' → LW f h h' → Q (some (.int 0)) h')
    (q1 : ∀ h' E, HI h' → frm (WCL cn) h h' → LW f h h' → SGp f h' (sg ++ E) → (sg ++ E).length ≤ tA h' → tA h' ≤ tN h → (h'.2.1 104 cn).toInt = ((100 * f + sg.length : Nat) : Int) → (h'.2.1 105 cn).toInt = ((100 * f + (sg ++ E).length : Nat) : Int) → dpt E 0 = some 1 → Q (some (.int 1)) h') :
    Ends X (dp + 1 + 1 + 1 + 1 + 1) 131 0 [.ref 93, .int c] [] h Q := by
  have hcc : c.toNatClampNeg = cn := by show c.toInt.toNat = _; omega
  have hi : inB c 60 = true := inB_iff (by omega) (by omega)
  refine w_clause c hh.hs (hd_s c cn hc hcn hh hle (fun ok h1 hh1 f1 t1 t2 => ⟨_, rfl, hh1.hs, fun e => ?_, fun e => ?_⟩))
  · have w106 : ∀ k, inW (WHD cn) 106 k = false := fun k => rfl
    exact q0 h1 hh1 (sub_HD f1) (LW.fr f1 w106)
  · have l1 : LW f h h1 := LW.fr f1 (fun k => rfl)
    have eN1 : tN h1 = tN h := tN_fr f1 rfl
    have s1 : SGp f h1 sg := hp.fr f1 rfl (fun k => rfl)
    refine tn_ok hh1 (fun ok2 h2 hh2 f2 hm => ⟨_, rfl, hh2.hs, fun e2 => ⟨hi, ?_⟩, fun e2 => ?_⟩)
    · have e2 := cn2 e2
      subst e2
      have l2 : LW f h h2 := LW.tr l1 (LW.fr f2 (fun k => rfl))
      have eN2 : tN h2 = tN h := (tN_fr f2 rfl).trans eN1
      have s2 : SGp f h2 sg := s1.fr f2 rfl (fun k => rfl)
      have fr2 := frm_trans (sub_HD f1) (sub_WD2 f2)
      cases hnum : numP (tT h1) (tN h1) (tA h1) with
      | none =>
        rw [hnum] at hm
        exact absurd hm.1 (by decide)
      | some q =>
        obtain ⟨v, b⟩ := q
        rw [hnum] at hm
        obtain ⟨-, m1, m2⟩ := hm
        have nl := numP_le2 hnum
        have nv := numP_le hnum
        rw [hcc]
        have b13 := hh2.iv 93 13 (r := (0, 99)) rfl
        have hh3 : HI (hpI h2 103 cn (h2.2.1 93 13)) := HI_put hh2 (by show (0 : Int) ≤ _; exact b13.1) (by show _ ≤ (99 : Int); exact b13.2)
        have f3 : frm (WCL cn) h (hpI h2 103 cn (h2.2.1 93 13)) := frm_put fr2 WCL_103
        have l3 : LW f h (hpI h2 103 cn (h2.2.1 93 13)) := LW.tr l2 (LW.put (by decide))
        have s3 : SGp f (hpI h2 103 cn (h2.2.1 93 13)) sg := ⟨by rw [put_ne (by omega)]; exact s2.1, fun j hj => by rw [put_ne (by omega)]; exact s2.2 j hj⟩
        have eA3 : tA (hpI h2 103 cn (h2.2.1 93 13)) = tA h2 := by unfold tA; rw [put_ne (by omega)]
        have eN3 : tN (hpI h2 103 cn (h2.2.1 93 13)) = tN h := by rw [← eN2]; unfold tN; rw [put_ne (by omega)]
        generalize hpI h2 103 cn (h2.2.1 93 13) = h3 at *
        have r3 := nx_rng hh3
        refine tk_ok 32 (by decide) hh3 (fun h4 hh4 f4 a4 => ⟨_, rfl, hh4.hs, fun e3 => ?_, fun e3 => ?_⟩)
        · exact q0 h4 hh4 (frm_trans f3 (sub_WA2 f4)) (LW.tr l3 (LW.fr f4 (fun k => rfl)))
        · have e3 := of_decide_eq_true (nb.mp (of_decide_eq_false (cI e3)))
          rw [if_pos e3] at a4
          have i32' : (32 : Int32).toInt = 32 := rfl
          have lt := r3.2.2 (by omega)
          have l4 : LW f h h4 := LW.tr l3 (LW.fr f4 (fun k => rfl))
          have eN4 : tN h4 = tN h := (tN_fr f4 rfl).trans eN3
          have s4 : SGp f h4 sg := s3.fr f4 rfl (fun k => rfl)
          have fr4 := frm_trans f3 (sub_WA2 f4)
          refine te_s c cn hc hcn hf5 sg hh4 s4 (by omega) (by omega) (fun h5 b1 b2 b3 => ⟨0, rfl, b1.hs, fun _ => q0 h5 b1 (frm_trans fr4 b2) (LW.tr l4 b3), fun x => absurd x (by decide)⟩) (fun h5 E b1 b2 b3 b4 b5 b6 b7 b8 b9 => ⟨1, rfl, b1.hs, fun x => absurd x (by decide), fun _ => ?_⟩)
          exact q1 h5 E b1 (frm_trans fr4 b2) (LW.tr l4 b3) b4 b5 (by rw [← eN4]; exact b6) b7 b8 b9
    · exact q0 h2 hh2 (frm_trans (sub_HD f1) (sub_WD2 f2)) (LW.tr l1 (LW.fr f2 (fun k => rfl)))
end CLS
