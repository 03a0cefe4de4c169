/-! behind of the reference. -/
theorem gd1 {T : Ctr} (i : Nat) (h : (TBL.take 328)[i]? = some T) : Good J1 T := all1 T (List.mem_of_getElem? h)
theorem gd2 {T : Ctr} (i : Nat) (h : (TBL.take 286)[i]? = some T) : Good J2 T := all2 T (List.mem_of_getElem? h)
theorem qp_int {nv : Nat} {ρ : Nat → Int} {posts : List Post} {v : Option Value} {h : Hp} {lo hi : Int} (hq : Qpost nv ρ posts v h) (hp : posts.all (fun P => match P.2.1 with | [a] => a.1 == 1 && rngOK (trg P.1 a.2.1) (lo, hi) | _ => false) = true) : ∃ r : Int32, v = some (.int r) ∧ lo ≤ r.toInt ∧ r.toInt ≤ hi := by
  obtain ⟨P, hP, ρ', e, hb, hn, ha, hf⟩ := hq
  have h1 := List.all_eq_true.mp hp P hP
  obtain ⟨B, A, F, S⟩ := P
  simp only at h1 ha hb
  match A, h1, ha with
  | [a], h1, ha =>
    obtain ⟨q1, q2⟩ := (Bool.and_eq_true _ _).mp h1
    match hv : v, ha with
    | some w, ha =>
      obtain ⟨x, rfl, hx⟩ := vm1 (by simpa using q1) ha.1
      have hr := tOK_rg hb hx
      have := rng_ok q2 hr.1 hr.2
      exact ⟨x, rfl, this.1, this.2⟩
    | none, ha => exact ha.elim
theorem way_s {X : Scr} {dp : Nat} {h : Hp} (o : Int32) (hd : cD k_280 ≤ dp) (hh : HI h) (hj : J1.1 h) (h1 : 0 ≤ o.toInt) (h2 : o.toInt ≤ 6) : Ends X dp 147 0 [.ref 93, .int o] [] h (fun v h' => ∃ r : Int32, v = some (.int r) ∧ 0 ≤ r.toInt ∧ r.toInt ≤ 6 ∧ HI h' ∧ frm [(109, 999)] h h') := by
  have g := gd1 280 (T := k_280) (by rfl)
  refine (g X dp (fun _ => o.toInt) h [.ref 93, .int o] hd hh (fun _ => hj) ?_ ⟨⟨93, rfl, List.mem_singleton.mpr rfl⟩, ⟨o, rfl, by decide, by show o.toInt = o.toInt + 0; omega⟩, trivial⟩ (fun q hq => by cases hq)).mono ?_
  · intro v q hq
    match v, hq with
    | 0, hq => cases hq; exact ⟨h1, h2⟩
    | v + 1, hq => cases hq
  · rintro v h' ⟨a1, a2, a3⟩
    obtain ⟨r, e, b1, b2⟩ := qp_int (lo := 0) (hi := 6) a3 (by decide +kernel)
    exact ⟨r, e, b1, b2, a1, a2⟩
def WCN : List (Nat × Nat) := [(93, 34), (93, 35), (109, 999), (110, 999)]
theorem caught_s2 {X : Scr} {dp : Nat} {h : Hp} (hd : cD k_285 ≤ dp) (hh : HI h) (hj : J2.1 h) : Ends X dp 157 0 [.ref 93, .retAddr 0, .retAddr 0, .retAddr 0, .retAddr 0, .retAddr 0] [] h (fun v h' => ∃ r : Int32, v = some (.int r) ∧ 0 ≤ r.toInt ∧ r.toInt ≤ 127 ∧ HI h' ∧ frm WCN h h') := by
  have g := gd2 285 (T := k_285) (by rfl)
  refine (g X dp (fun _ => 0) h [.ref 93] hd hh (fun _ => hj) (fun v q hq => by cases hq) ⟨⟨93, rfl, List.mem_singleton.mpr rfl⟩, trivial⟩ (fun q hq => by cases hq)).mono ?_
  rintro v h' ⟨a1, a2, a3⟩
  obtain ⟨r, e, b1, b2⟩ := qp_int (lo := 0) (hi := 127) a3 (by decide +kernel)
  exact ⟨r, e, b1, b2, a1, a2⟩
theorem caught_s1 {X : Scr} {dp : Nat} {h : Hp} (hd : cD k_285 ≤ dp) (hh : HI h) (hj : J1.1 h) : Ends X dp 157 0 [.ref 93, .retAddr 0, .retAddr 0, .retAddr 0, .retAddr 0, .retAddr 0] [] h (fun v h' => ∃ r : Int32, v = some (.int r) ∧ 0 ≤ r.toInt ∧ r.toInt ≤ 127 ∧ HI h' ∧ frm WCN h h') := by
  have g := gd1 285 (T := k_285) (by rfl)
  refine (g X dp (fun _ => 0) h [.ref 93] hd hh (fun _ => hj) (fun v q hq => by cases hq) ⟨⟨93, rfl, List.mem_singleton.mpr rfl⟩, trivial⟩ (fun q hq => by cases hq)).mono ?_
  rintro v h' ⟨a1, a2, a3⟩
  obtain ⟨r, e, b1, b2⟩ := qp_int (lo := 0) (hi := 127) a3 (by decide +kernel)
  exact ⟨r, e, b1, b2, a1, a2⟩
def WBH : List (Nat × Nat) := [(93, 28), (93, 29), (93, 31), (93, 34), (93, 35), (109, 999), (110, 999)]
theorem frm_mono {V W : List (Nat × Nat)} {h h' : Hp} (hs : subW V W = true) (hf : frm V h h') : frm W h h' := frm_sub hs hf
theorem behind_s {X : Scr} {dp : Nat} {h : Hp} {Q : Option Value → Hp → Prop} (p o : Int32) (hd : 40 ≤ dp) (hh : HI h) (hj : J1.1 h) (hQ : ∀ (r : Int32) h', HI h' → frm WBH h h' → Q (some (.int r)) h') : Ends X (dp + 1) 174 0 [.ref 93, .int p, .int o, .retAddr 0, .retAddr 0] [] h Q := by
  have hs := hh.hs
  have hp7 := hh.iv 93 0 (r := (0, 7)) rfl
  simp only at hp7
  obtain ⟨d, rfl⟩ : ∃ d, dp = d + 1 := ⟨dp - 1, by omega⟩
  have q0 : ∀ r : Int32, Q (some (.int r)) h := fun r => hQ r h hh frm_refl
  refine w_bh p o hs (person_ok p hh ⟨_, rfl, hs, fun e1 => q0 _, fun e1 => person_ok o hh ⟨_, rfl, hs, fun e2 => ⟨fun e3 => ?_, fun _ => q0 _⟩, fun e2 => q0 _⟩⟩)
  have e1 := cn e1
  have e2 := cn2 e2
  simp only [Bool.and_eq_true, decide_eq_true_eq] at e1 e2
  have e3 : ¬ p.toInt = o.toInt := of_decide_eq_true (cI e3)
  refine run_ok p hs ⟨_, rfl, hs, fun e4 => q0 _, fun e4 => run_ok o hs ⟨_, rfl, hs, fun e5 => ?_, fun e5 => q0 _⟩⟩
  have e4 := cn e4
  have e5 := cn2 e5
  refine (way_s o (Nat.le_trans (by decide) hd) hh hj e2.1 (by omega)).mono ?_
  rintro _ h1 ⟨w, rfl, w1, w2, hh1, hf1⟩
  refine ⟨w, rfl, hh1.hs, ?_⟩
  generalize hg : hpI (hpI (hpI (hpI h1 93 28 p) 93 29 w) 93 30 p) 93 31 o = h2
  have hh2 : HI h2 := by
    subst hg
    refine HI_put (HI_put (HI_put (HI_put hh1 ?_ ?_) ?_ ?_) ?_ ?_) ?_ ?_
    · exact (i32r p).1
    · exact (i32r p).2
    · show (0 : Int) ≤ _; exact w1
    · show _ ≤ (6 : Int); exact w2
    · show (-1 : Int) ≤ _; omega
    · show _ ≤ (6 : Int); omega
    · exact (i32r o).1
    · exact (i32r o).2
  have f2 : frm ((93, 30) :: WBH) h h2 := by
    subst hg
    exact frm_put (frm_put (frm_put (frm_put (frm_mono (V := [(109, 999)]) (by decide) hf1) rfl) rfl) rfl) rfl
  have v30 : h2.2.1 93 30 = p := by subst hg; rw [put_ne (by omega), put_at]
  have v31 : h2.2.1 93 31 = o := by subst hg; rw [put_at]
  have v0 : h2.2.1 93 0 = h.2.1 93 0 := frI f2 rfl
  have hj2 : J2.1 h2 := by
    refine ⟨?_, ?_⟩
    · obtain ⟨t1, t2, t3⟩ := hj.1
      have e106 : h2.2.1 106 = h.2.1 106 := by funext k; exact frI f2 (by simp [inW, WBH])
      refine ⟨by rw [frI f2 rfl, frI f2 rfl]; exact t1, by rw [frI f2 rfl, frI f2 rfl]; exact t2, fun f c a b => ?_⟩
      rw [frI f2 rfl] at a
      rw [frI f2 rfl] at b
      exact ⟨cl_fr (frI f2 rfl) (frI f2 rfl) e106 (t3 f c a b).1, by rw [frI f2 rfl]; exact (t3 f c a b).2⟩
    · intro _
      have hrun : runM h2 o = runM h o := by unfold runM; rw [frI f2 rfl, frI f2 rfl]
      rw [v30, v31, v0, hrun]
      exact ⟨e1.2, e2.1, e2.2, e5, fun q => e3 q.symm⟩
  refine (caught_s2 (Nat.le_trans (by decide) hd) hh2 hj2).mono ?_
  rintro _ h3 ⟨c, rfl, c1, c2, hh3, hf3⟩
  refine ⟨c, rfl, hh3.hs, ?_⟩
  have hh4 : HI (hpI (hpI h3 93 28 (-1)) 93 30 (-1)) := by
    refine HI_put (HI_put hh3 ?_ ?_) ?_ ?_
    · exact (i32r (-1)).1
    · exact (i32r (-1)).2
    · show (-1 : Int) ≤ _; exact Int.le_refl _
    · show _ ≤ (6 : Int); decide
  have f4 : frm WBH h (hpI (hpI h3 93 28 (-1)) 93 30 (-1)) := by
    have f3 : frm ((93, 30) :: WBH) h h3 := frm_trans f2 (frm_mono (by decide) hf3)
    have f5 : frm ((93, 30) :: WBH) h (hpI (hpI h3 93 28 (-1)) 93 30 (-1)) := frm_put (frm_put f3 rfl) rfl
    intro a k hk
    by_cases c : a = 93 ∧ k = 30
    · obtain ⟨rfl, rfl⟩ := c
      refine ⟨?_, ?_, ?_⟩
      · rw [put_at]
        apply Int32.toInt.inj
        rw [hj.2]
        rfl
      · show h3.2.2.1 93 30 = _
        rw [(hf3 93 30 rfl).2.1]
        subst hg
        exact (hf1 93 30 rfl).2.1
      · show h3.2.2.2 93 30 = _
        rw [(hf3 93 30 rfl).2.2]
        subst hg
        exact (hf1 93 30 rfl).2.2
    · refine f5 a k ?_
      unfold inW at hk ⊢
      rw [List.any_cons, hk, Bool.or_false]
      simp only [Bool.and_eq_false_iff, beq_eq_false_iff_ne, Bool.or_eq_false_iff]
      by_cases c1 : 93 = a
      · refine Or.inr ⟨fun q => c ⟨c1.symm, q.symm⟩, by decide⟩
      · exact Or.inl c1
  exact has_ok c p hh4.hs ⟨_, rfl, hh4.hs, fun e => hQ _ _ hh4 f4, fun e => hQ _ _ hh4 f4⟩
