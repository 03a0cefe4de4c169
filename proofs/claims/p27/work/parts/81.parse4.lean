/-! The reading of the texts of the reference, exactly: tests and what joins them. -/
def testP (T : Nat → Int) (n a : Nat) : Nat × Option Int := if plcP (nxP T n a) < 0 then (a, none) else if ¬ (60 ≤ nxP T n (a + 1) ∧ nxP T n (a + 1) ≤ 62) then (a + 1, none) else match numP T n (a + 2) with
  | none => (a + 2, none)
  | some (v, b) => (b, some (1000 * plcP (nxP T n a) + 100 * (nxP T n (a + 1) - 60) + v))
def WTT : List (Nat × Nat) := [(93, 12), (93, 13), (93, 22), (93, 23), (93, 24), (106, 999)]
theorem WTT_T (k : Nat) : inW WTT 100 k = false := rfl
section TE
variable {X : Scr} {dp f : Nat} {h : Hp} {Q : Option Value → Hp → Prop}
theorem plc_ok (x : Int32) (hs : HS h) (hQ : ∀ r : Int32, r.toInt = plcP x.toInt → Q (some (.int r)) h) : Ends X dp 127 0 [.ref 93, .int x] [] h Q := by
  unfold plcP at hQ
  refine w_place x hs ⟨fun e => hQ _ ?_, fun e => hQ _ ?_, fun e => hQ _ ?_, fun e => hQ _ ?_, fun e => hQ _ ?_, fun e => hQ _ ?_, fun e => hQ _ ?_⟩
  · rw [if_neg (by omega), if_neg (by omega), if_neg (by omega), if_neg (by omega), if_neg (by omega), if_neg (by omega)]
    rfl
  all_goals rw [e]; rfl
theorem plc_rng (x : Int) : -1 ≤ plcP x ∧ plcP x ≤ 5 ∧ (0 ≤ plcP x → x ≠ -1) := by
  unfold plcP
  split
  · omega
  · split
    · omega
    · split
      · omega
      · split
        · omega
        · split
          · omega
          · split <;> omega
theorem PSt.fr {W : List (Nat × Nat)} {ws sg : List Int} {h' : Hp} (hp : PSt f h ws sg) (hf : frm W h h') (w1 : inW W 93 22 = false) (w2 : inW W 93 23 = false) (w3 : inW W 93 24 = false) (w4 : ∀ k, inW W 106 k = false) (w5 : ∀ k, inW W 107 k = false) : PSt f h' ws sg := by
  obtain ⟨p1, p2, p3, p4, p5⟩ := hp
  exact ⟨by rw [frI hf w2]; exact p1, by rw [frI hf w3]; exact p2, by rw [frI hf w1]; exact p3, fun j hj => by rw [frI hf (w5 _)]; exact p4 j hj, fun j hj => by rw [frI hf (w4 _)]; exact p5 j hj⟩
theorem LW.fr {W : List (Nat × Nat)} {h' : Hp} (hf : frm W h h') (w : ∀ k, inW W 106 k = false) : LW f h h' := fun x _ => frI hf (w x)
/-- one place on -/
theorem adv (hh : HI h) (hlt : tA h < tN h) : ∃ u : Int32, h.2.1 93 12 + 1 = u ∧ HI (hpI h 93 12 u) ∧ frm WA h (hpI h 93 12 u) ∧ tA (hpI h 93 12 u) = tA h + 1 := by
  obtain ⟨a1, a2⟩ := tA_v hh
  obtain ⟨b1, b2⟩ := tN_v hh
  refine ⟨_, rfl, ?_⟩
  have g : (h.2.1 93 12 + 1).toInt = ((tA h + 1 : Nat) : Int) := by rw [i_add (by rw [i1]; omega) (by rw [i1]; omega), i1]; omega
  generalize h.2.1 93 12 + 1 = u at g ⊢
  refine ⟨HI_put hh (by show (0 : Int) ≤ _; omega) (by show _ ≤ (100 : Int); omega), frm_put frm_refl rfl, ?_⟩
  show ((hpI h 93 12 u).2.1 93 12).toInt.toNat = _
  rw [put_at]
  omega
theorem numP_le {T : Nat → Int} {n a b : Nat} {v : Int} (hn : numP T n a = some (v, b)) : a + 1 ≤ b ∧ 0 ≤ v ∧ v ≤ 99 := by
  unfold numP at hn
  split at hn
  · rename_i d
    unfold isD at d
    simp only [Bool.and_eq_true, decide_eq_true_eq] at d
    split at hn
    · rename_i d2
      unfold isD at d2
      simp only [Bool.and_eq_true, decide_eq_true_eq] at d2
      cases hn
      omega
    · cases hn
      omega
  · cases hn
theorem ts_ok (ws sg : List Int) (hf5 : f ≤ 5) (hh : HI h) (hp : PSt f h ws sg) (hl : sg.length + ws.length ≤ tA h)
    (hQ : ∀ (ok : Bool) h', HI h' → frm WTT h h' → LW f h h' → (match testP (tT h) (tN h) (tA h) with | (a, none) => ok = false ∧ tA h' = a ∧ PSt f h' ws sg | (a, some s) => ok = true ∧ tA h' = a ∧ PSt f h' (whlP ws (sg ++ [s])).1 (whlP ws (sg ++ [s])).2) → Q (some (.int (b2i ok))) h') :
    Ends X (dp + 1 + 1 + 1) 128 0 [.ref 93, .retAddr 0, .retAddr 0] [] h Q := by
  unfold testP at hQ
  obtain ⟨n1, n2, n3⟩ := nx_rng hh
  refine w_test hh.hs (nx_ok hh (fun r hr => ⟨r, rfl, hh.hs, plc_ok r hh.hs (fun p hpv => ⟨p, rfl, hh.hs, fun e => ?_, fun e => ?_⟩)⟩))
  · rw [hr] at hpv
    have e : 0 ≤ p.toInt := of_decide_eq_true (cI e)
    obtain ⟨l1, l2, l3⟩ := plc_rng (nxP (tT h) (tN h) (tA h))
    rw [if_neg (by omega)] at hQ
    obtain ⟨u, hu, hh1, f1, a1⟩ := adv hh (n3 (by omega))
    rw [hu]
    have eT1 : tT (hpI h 93 12 u) = tT h := tT_fr f1 WA_T
    have eN1 : tN (hpI h 93 12 u) = tN h := tN_fr f1 rfl
    have n1' := nx_rng hh1
    generalize hpI h 93 12 u = h1 at hh1 f1 a1 eT1 eN1 n1' ⊢
    rw [eT1, eN1, a1] at n1'
    refine nx_ok hh1 (fun c hc => ⟨c, rfl, hh1.hs, in_ok _ _ _ hh1.hs ⟨_, rfl, hh1.hs, fun e2 => ?_, fun e2 => ?_⟩⟩)
    · rw [eT1, eN1, a1] at hc
      have e2 := cn2 e2
      simp only [Bool.and_eq_true, decide_eq_true_eq] at e2
      have i60' : (60 : Int32).toInt = 60 := rfl
      have i62' : (62 : Int32).toInt = 62 := rfl
      rw [i60', i62', hc] at e2
      rw [if_neg (Decidable.not_not.mpr e2)] at hQ
      obtain ⟨u2, hu2, hh2, f2, a2⟩ := adv hh1 (by rw [a1, eN1]; exact n1'.2.2 (by omega))
      rw [hu2]
      have f2' := frm_trans f1 f2
      have eT2 : tT (hpI h1 93 12 u2) = tT h := tT_fr f2' WA_T
      have eN2 : tN (hpI h1 93 12 u2) = tN h := tN_fr f2' rfl
      generalize hpI h1 93 12 u2 = h2 at hh2 f2 f2' a2 eT2 eN2 ⊢
      rw [a1] at a2
      refine tn_ok hh2 (fun ok h3 hh3 f3 hm => ⟨_, rfl, hh3.hs, fun e3 => ?_, fun e3 => ?_⟩)
      · have e3 := cn2 e3
        subst e3
        rw [eT2, eN2, a2] at hm
        have f3' : frm WD h h3 := frm_trans (frm_sub (V := WA) (by decide) f2') f3
        have hp3 : PSt f h3 ws sg := hp.fr f3' rfl rfl rfl (fun _ => rfl) (fun _ => rfl)
        have lw3 : LW f h h3 := LW.fr f3' (fun _ => rfl)
        cases hnum : numP (tT h) (tN h) (tA h + 1 + 1) with
        | none =>
          rw [hnum] at hm
          exact absurd hm.1 (by decide)
        | some q =>
          obtain ⟨v, b⟩ := q
          rw [hnum] at hm
          rw [show tA h + 2 = tA h + 1 + 1 by omega, hnum] at hQ
          simp only at hQ hm
          obtain ⟨-, m1, m2⟩ := hm
          obtain ⟨b1, b2, b3⟩ := numP_le hnum
          have tA3 := tA_v hh3
          have i1000 : (1000 : Int32).toInt = 1000 := rfl
          have i100 : (100 : Int32).toInt = 100 := rfl
          have g1 : (1000 * p).toInt = 1000 * plcP (nxP (tT h) (tN h) (tA h)) := by rw [i_mul (by rw [i1000]; omega) (by rw [i1000]; omega), i1000, hpv]
          have g2 : (c - 60).toInt = nxP (tT h) (tN h) (tA h + 1) - 60 := by rw [i_sub (by rw [i60']; omega) (by rw [i60']; omega), i60', hc]
          generalize 1000 * p = w1 at g1 ⊢
          generalize c - 60 = w2 at g2 ⊢
          have g3 : (100 * w2).toInt = 100 * (nxP (tT h) (tN h) (tA h + 1) - 60) := by rw [i_mul (by rw [i100]; omega) (by rw [i100]; omega), i100, g2]
          generalize 100 * w2 = w3 at g3 ⊢
          have g4 : (w1 + w3).toInt = 1000 * plcP (nxP (tT h) (tN h) (tA h)) + 100 * (nxP (tT h) (tN h) (tA h + 1) - 60) := by rw [i_add (by omega) (by omega), g1, g3]
          generalize w1 + w3 = w4 at g4 ⊢
          have g5 : (w4 + h3.2.1 93 13).toInt = 1000 * plcP (nxP (tT h) (tN h) (tA h)) + 100 * (nxP (tT h) (tN h) (tA h + 1) - 60) + v := by rw [i_add (by omega) (by omega), g4, m2]
          generalize w4 + h3.2.1 93 13 = w5 at g5 ⊢
          refine em_ok w5 ws sg hf5 hh3 hp3 (by omega) (fun h4 hh4 f4 l4 s4 => ⟨rfl, hh4.hs, ?_⟩)
          rw [g5] at s4
          refine whl_ok hf5 ws _ h4 hh4 s4 (by simp; omega) (fun h5 hh5 f5 l5 s5 => ⟨rfl, hh5.hs, ?_⟩)
          have f45 : frm WW h3 h5 := frm_trans (frm_sub (V := WE) (by decide) f4) f5
          refine hQ true h5 hh5 (frm_trans (frm_sub (V := WD) (by decide) f3') (frm_sub (V := WW) (by decide) f45)) (LW.tr lw3 (LW.tr l4 l5)) ⟨rfl, ?_, s5⟩
          show (h5.2.1 93 12).toInt.toNat = b
          rw [frI f45 rfl]
          exact m1
      · have e3 := cz2 e3
        subst e3
        rw [eT2, eN2, a2] at hm
        have f3' : frm WD h h3 := frm_trans (frm_sub (V := WA) (by decide) f2') f3
        cases hnum : numP (tT h) (tN h) (tA h + 1 + 1) with
        | none =>
          rw [hnum] at hm
          rw [show tA h + 2 = tA h + 1 + 1 by omega, hnum] at hQ
          refine hQ false h3 hh3 (frm_sub (V := WD) (by decide) f3') (LW.fr f3' (fun _ => rfl)) ⟨rfl, hm.2, hp.fr f3' rfl rfl rfl (fun _ => rfl) (fun _ => rfl)⟩
        | some q =>
          rw [hnum] at hm
          exact absurd hm.1 (by decide)
    · rw [eT1, eN1, a1] at hc
      have e2 := cz2 e2
      have i60' : (60 : Int32).toInt = 60 := rfl
      have i62' : (62 : Int32).toInt = 62 := rfl
      rw [i60', i62', hc] at e2
      simp only [Bool.and_eq_false_iff, decide_eq_false_iff_not] at e2
      rw [if_pos (by omega)] at hQ
      exact hQ false h1 hh1 (frm_sub (V := WA) (by decide) f1) (LW.fr f1 (fun _ => rfl)) ⟨rfl, a1, hp.fr f1 rfl rfl rfl (fun _ => rfl) (fun _ => rfl)⟩
  · rw [hr] at hpv
    have e : ¬ 0 ≤ p.toInt := of_decide_eq_false (cI e)
    rw [if_pos (by omega)] at hQ
    exact hQ false h hh frm_refl LW.rf ⟨rfl, rfl, hp⟩
end TE
