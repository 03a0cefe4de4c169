/-! The calls that INV speaks of: alone, person, image, undo. -/
def SUPJ : List (Nat × Nat) := [(93, 9), (101, 999), (104, 999), (105, 999), (106, 999), (93, 30), (56, 999), (38, 999)]
theorem INV_of {W : List (Nat × Nat)} {h h' : Hp} (hd : disW SUPJ W = true) (hi : INV h) (hh : HI h') (hf : frm W h h') (t1 : (h'.2.1 93 10).toInt < (h.2.1 93 9).toInt) (t2 : (h'.2.1 93 45).toInt < (h.2.1 93 9).toInt) (g : h'.2.1 93 32 = 0) (s : (h'.2.1 93 1).toInt ≤ 999) (q : (h'.2.1 93 47).toInt ≤ 999) (r1 : h'.2.1 1 0 = h'.2.1 93 0) (r2 : h'.2.1 9 0 = h'.2.1 93 46) (r3 : h'.2.1 0 2 = h'.2.1 93 44) : INV h' := by
  obtain ⟨-, ⟨⟨-, -, t3⟩, j1⟩, -, -, -, ⟨x1, x2⟩, -, -, -⟩ := hi
  have e : ∀ a k, inW SUPJ a k = true → h'.2.1 a k = h.2.1 a k := fun a k hs => (hf a k (dis_in hd hs)).1
  have er : ∀ a k, inW SUPJ a k = true → h'.2.2.2 a k = h.2.2.2 a k := fun a k hs => (hf a k (dis_in hd hs)).2.2
  have e9 : h'.2.1 93 9 = h.2.1 93 9 := e 93 9 rfl
  have e106 : h'.2.1 106 = h.2.1 106 := by funext k; exact e _ _ (by simp [inW, SUPJ])
  have e5 : ∀ x, h'.2.1 105 x = h.2.1 105 x := fun x => e 105 _ (by simp [inW, SUPJ])
  refine ⟨hh, ⟨⟨by rw [e9]; exact t1, by rw [e9]; exact t2, fun f c hf hc => ?_⟩, by rw [e 93 30 rfl]; exact j1⟩, g, s, q, ⟨fun i hi => ?_, fun i hi => ?_⟩, r1, r2, r3⟩
  · rw [e9] at hf
    rw [e 101 f (by simp [inW, SUPJ])] at hc
    exact ⟨cl_fr (e 104 _ (by simp [inW, SUPJ])) (e5 _) e106 (t3 f c hf hc).1, by rw [e5]; exact (t3 f c hf hc).2⟩
  · rw [er 56 i (by simp [inW, SUPJ])]; exact x1 i hi
  · rw [er 38 i (by simp [inW, SUPJ])]; exact x2 i hi
theorem sh1_rng {w : Int32} (h1 : 0 ≤ w.toInt) (h2 : w.toInt ≤ 6) : 0 ≤ ((1 : Int32) <<< (w &&& 31)).toInt ∧ ((1 : Int32) <<< (w &&& 31)).toInt ≤ 127 := by
  rw [i_shl h1 (by omega)]
  have : w.toInt.toNat ≤ 6 := by omega
  generalize w.toInt.toNat = n at this
  match n, this with
  | 0, _ => decide
  | 1, _ => decide
  | 2, _ => decide
  | 3, _ => decide
  | 4, _ => decide
  | 5, _ => decide
  | 6, _ => decide
  | n + 7, h => omega
def WAL : List (Nat × Nat) := [(93, 2), (93, 32), (93, 34), (93, 35), (109, 999), (110, 999)]
theorem alone_f {X : Scr} {dp : Nat} {h : Hp} {Q : Option Value → Hp → Prop} (w : Int32) (hd : 40 ≤ dp) (hi : INV h) (hQ : ∀ (r : Int32) h', INV h' → frm WAL h h' → Q (some (.int r)) h') : Ends X (dp + 1) 170 0 [.ref 93, .int w, .retAddr 0, .retAddr 0] [] h Q := by
  obtain ⟨d, rfl⟩ : ∃ d, dp = d + 1 := ⟨dp - 1, by omega⟩
  have hh := hi.1
  have b0 := hh.iv 93 0 (r := (0, 7)) rfl
  have b2 := hh.iv 93 2 (r := (0, 127)) rfl
  simp only at b0 b2
  refine w_alone w hh.hs (person_ok w hh ⟨_, rfl, hh.hs, fun e => run_ok w hh.hs ⟨_, rfl, hh.hs, fun e2 => ?_, fun e2 => hQ _ h hi frm_refl⟩, fun e => hQ _ h hi frm_refl⟩)
  have e := cn2 e
  simp only [Bool.and_eq_true, decide_eq_true_eq] at e
  have hs := sh1_rng (w := w) (by omega) (by omega)
  generalize hu : ((1 : Int32) <<< (w &&& 31)) = u at hs
  have a1 := i_and1 (x := h.2.1 93 2) (y := u ^^^ (-1)) b2.1
  generalize hz : (h.2.1 93 2 &&& (u ^^^ (-1))) = z at a1
  have g1 : HI (hpI h 93 32 z) := HI_put hh (i32r z).1 (i32r z).2
  have g2 : HI (hpI (hpI h 93 32 z) 93 2 u) := HI_put g1 (by show (0 : Int) ≤ _; omega) (by show _ ≤ (127 : Int); omega)
  have f2 : frm WAL h (hpI (hpI h 93 32 z) 93 2 u) := frm_put (frm_put frm_refl rfl) rfl
  have j2 : J1.1 (hpI (hpI h 93 32 z) 93 2 u) := JS1 h _ (fun a k hs => by
    have : ∀ j, inW SUP1 93 j = true → j = 9 ∨ j = 10 ∨ j = 45 ∨ j = 30 := by
      intro j hj
      simp [inW, SUP1] at hj
      omega
    by_cases c : a = 93
    · have := this k (c ▸ hs)
      rw [put_ne (by omega), put_ne (by omega)]
    · rw [put_ne (by omega), put_ne (by omega)]) hi.2.1
  refine (caught_s1 (X := X) (dp := d + 1) (Nat.le_trans (by decide +kernel : cD k_285 ≤ 40) hd) g2 j2).mono ?_
  rintro v h9 ⟨r, rfl, r1, r2, g9, f9⟩
  refine ⟨r, rfl, g9.hs, ones_ok r g9.hs r1 (by omega) (fun x _ => ⟨x, rfl, g9.hs, hQ _ _ ?_ ?_⟩)⟩
  rotate_left
  · exact frm_put (frm_put (frm_trans f2 (frm_mono (by decide) f9)) rfl) rfl
  have f : frm WAL h (hpI (hpI h9 93 32 0) 93 2 (h.2.1 93 2)) := frm_put (frm_put (frm_trans f2 (frm_mono (by decide) f9)) rfl) rfl
  have g : HI (hpI (hpI h9 93 32 0) 93 2 (h.2.1 93 2)) := HI_put (HI_put g9 (i32r 0).1 (i32r 0).2) (by show (0 : Int) ≤ _; omega) (by show _ ≤ (127 : Int); omega)
  refine INV_of (W := WAL) (by decide) hi g f ?_ ?_ ?_ ?_ ?_ ?_ ?_ ?_
  · rw [frI f rfl]; exact hi.2.1.1.1
  · rw [frI f rfl]; exact hi.2.1.1.2.1
  · rw [put_ne (by omega), put_at]
  · rw [frI f rfl]; exact hi.2.2.2.1
  · rw [frI f rfl]; exact hi.2.2.2.2.1
  · rw [frI f rfl, frI f rfl]; exact hi.2.2.2.2.2.2.1
  · rw [frI f rfl, frI f rfl]; exact hi.2.2.2.2.2.2.2.1
  · rw [frI f rfl, frI f rfl]; exact hi.2.2.2.2.2.2.2.2
theorem alone_s {X : Scr} {dp : Nat} {h : Hp} {Q : Option Value → Hp → Prop} (w : Int32) (hd : 40 ≤ dp) (hi : INV h) (hQ : ∀ (r : Int32) h', INV h' → Q (some (.int r)) h') : Ends X (dp + 1) 170 0 [.ref 93, .int w, .retAddr 0, .retAddr 0] [] h Q := alone_f w hd hi (fun r h' a _ => hQ r h' a)
def WPJ : List (Nat × Nat) := [(2, 999), (3, 999), (4, 999), (5, 999), (6, 999), (1, 0), (93, 0), (93, 2), (94, 999), (95, 999), (96, 999), (97, 999), (98, 999), (99, 999)]
theorem WPJ_in {a k : Nat} (h : (a == 2 || a == 3 || a == 4 || a == 5 || a == 6) = true) : inW WPJ a k = true := by
  simp only [Bool.or_eq_true, beq_iff_eq] at h
  rcases h with (((rfl | rfl) | rfl) | rfl) | rfl <;> simp [inW, WPJ]
theorem joinH_ok {h : Hp} {k v l p s : Int32} (hh : HI h) (ok : perOK (h.2.1 1 0) k v l p s = true) : HI (joinH h k v l p s) ∧ frm WPJ h (joinH h k v l p s) ∧ (joinH h k v l p s).2.1 1 0 = h.2.1 1 0 + 1 ∧ (joinH h k v l p s).2.1 93 0 = h.2.1 93 0 := by
  have b := hh.iv 1 0 (r := (0, 7)) rfl
  simp only at b
  unfold perOK inR at ok
  simp only [Bool.and_eq_true, decide_eq_true_eq, Bool.not_eq_true', decide_eq_false_iff_not] at ok
  obtain ⟨⟨a0, ⟨⟨a1, a2⟩, a3⟩, a4⟩, a5⟩ := ok
  have g : (h.2.1 1 0 + 1).toInt = (h.2.1 1 0).toInt + 1 := by rw [i_add (by rw [i1]; omega) (by rw [i1]; omega), i1]
  have e : (joinH h k v l p s).2.1 1 0 = h.2.1 1 0 + 1 := put_at
  have e2 : (joinH h k v l p s).2.1 93 0 = h.2.1 93 0 := by unfold joinH; rw [put_ne (by omega), put_ne (by omega), put_ne (by omega), put_ne (by omega), put_ne (by omega), put_ne (by omega)]
  refine ⟨?_, ?_, e, e2⟩
  · unfold joinH
    generalize h.2.1 1 0 + 1 = u at g
    generalize (h.2.1 1 0).toInt.toNat = n
    exact HI_put (HI_put (HI_put (HI_put (HI_put (HI_put hh a0.1 a0.2) a1.1 a1.2) a2.1 a2.2) a3.1 a3.2) a4.1 a4.2) (by show (0 : Int) ≤ _; omega) (by show _ ≤ (7 : Int); omega)
  · unfold joinH
    exact frm_put (frm_put (frm_put (frm_put (frm_put (frm_put frm_refl (WPJ_in rfl)) (WPJ_in rfl)) (WPJ_in rfl)) (WPJ_in rfl)) (WPJ_in rfl)) rfl
theorem per_pair {X : Scr} {dp : Nat} {h : Hp} {Q : Option Value → Hp → Prop} (k v l p s : Int32) (hi : INV h) {K : Hp → Int32 → Int32 → Prop} (hK : ∀ r h', INV h' → K h' r r) (hQ : ∀ r h1, HI h1 → Ends X (dp + 1) 114 0 [.ref 93, .int k, .int v, .int l, .int p, .int s, .retAddr 0] [] h1 (fun w h2 => ∃ r2, w = some (.int r2) ∧ HS h2 ∧ K h2 r r2) → Q (some (.int r)) h1) : Ends X (dp + 1) 63 0 [.ref 0, .int k, .int v, .int l, .int p, .int s] [] h Q := by
  have hh := hi.1
  have r1 := hi.2.2.2.2.2.2.1
  have key : ∃ hc, hc = (if perOK (h.2.1 1 0) k v l p s = true then joinH h k v l p s else h) ∧ HI hc ∧ frm WPJ h hc ∧ hc.2.1 93 0 = h.2.1 93 0 ∧ hc.2.1 1 0 = if perOK (h.2.1 1 0) k v l p s = true then h.2.1 1 0 + 1 else h.2.1 1 0 := by
    by_cases c : perOK (h.2.1 1 0) k v l p s = true
    · have q := joinH_ok hh c
      exact ⟨_, rfl, by rw [if_pos c]; exact q.1, by rw [if_pos c]; exact q.2.1, by rw [if_pos c]; exact q.2.2.2, by rw [if_pos c, if_pos c]; exact q.2.2.1⟩
    · exact ⟨_, rfl, by rw [if_neg c]; exact hh, by rw [if_neg c]; exact frm_refl, by rw [if_neg c], by rw [if_neg c, if_neg c]⟩
  obtain ⟨hc, e, gc, fc, c0, c1⟩ := key
  refine cper_ok k v l p s hh ?_
  rw [← e]
  refine hQ _ hc gc ?_
  refine mper_ok k v l p s gc (fun h' z1 z2 z3 => ⟨_, rfl, z1.hs, ?_⟩)
  rw [c0, ← r1] at z3 ⊢
  refine hK _ h' ?_
  have f : frm WPJ h h' := frm_trans fc (frm_mono (by decide) z2)
  refine INV_of (W := WPJ) (by decide) hi z1 f ?_ ?_ ?_ ?_ ?_ ?_ ?_ ?_
  · rw [frI f rfl]; exact hi.2.1.1.1
  · rw [frI f rfl]; exact hi.2.1.1.2.1
  · rw [frI f rfl]; exact hi.2.2.1
  · rw [frI f rfl]; exact hi.2.2.2.1
  · rw [frI f rfl]; exact hi.2.2.2.2.1
  · have q : h'.2.1 1 0 = hc.2.1 1 0 := frI z2 rfl
    rw [q, c1]
    by_cases c : perOK (h.2.1 1 0) k v l p s = true
    · rw [if_pos c] at z3 ⊢
      rw [z3.1, c0, r1]
    · rw [if_neg c] at z3 ⊢
      rw [z3, c0, r1]
  · rw [frI f rfl, frI f rfl]; exact hi.2.2.2.2.2.2.2.1
  · rw [frI f rfl, frI f rfl]; exact hi.2.2.2.2.2.2.2.2
/-! image -/
theorem hpM_ne {h : Hp} {a b s d n c k : Nat} (hn : c ≠ a) : (hpM h a b s d n).2.1 c k = h.2.1 c k := by
  show (if c = a then _ else h.2.1 c) k = _
  rw [if_neg hn]
theorem bec_0 {h : Hp} {a b : Nat} : (bec h a b).2.1 a 0 = h.2.1 b 0 := by
  unfold bec
  rw [put_ne (by omega), put_ne (by omega), hpM_ne (by omega), put_ne (by omega), put_ne (by omega), put_ne (by omega), hpM_ne (by omega), hpM_ne (by omega), hpM_ne (by omega), hpM_ne (by omega), hpM_ne (by omega), hpM_ne (by omega), put_at]
def WIM : List (Nat × Nat) := cW k_161 ++ Wmig
theorem img_pair {X : Scr} {dp : Nat} {h : Hp} {Q : Option Value → Hp → Prop} (hi : INV h) {K : Hp → Int32 → Int32 → Prop} (hK : ∀ r h', INV h' → K h' r r) (hQ : ∀ r h1, HI h1 → Ends X (dp + 1) 184 0 [.ref 93, .retAddr 0] [] h1 (fun w h2 => ∃ r2, w = some (.int r2) ∧ HS h2 ∧ K h2 r r2) → Q (some (.int r)) h1) : Ends X (dp + 1) 89 0 [.ref 0] [] h Q := by
  have hh := hi.1
  have e1 := cimg_ok (X := X) (dp := dp) (h := h) (Q := fun v h' => v = some (.int (h.2.1 1 0)) ∧ h' = hpI (bec h 9 1) 0 2 1) hh.hs ⟨rfl, rfl⟩
  have e2 := gd1 161 (T := k_161) (by rfl) X (dp + 1) (fun _ => 0) h [.ref 0] (by show 1 ≤ dp + 1; omega) hh (fun q => by cases q) (fun v q hq => by cases hq) ⟨⟨0, rfl, List.mem_singleton.mpr rfl⟩, trivial⟩ (fun q hq => by cases hq)
  refine (e1.and e2).mono ?_
  rintro v hc ⟨⟨rfl, rfl⟩, gc, fc, -⟩
  have c9 : (hpI (bec h 9 1) 0 2 1).2.1 9 0 = h.2.1 1 0 := by rw [put_ne (by omega), bec_0]
  have c2 : (hpI (bec h 9 1) 0 2 1).2.1 0 2 = 1 := put_at
  generalize hpI (bec h 9 1) 0 2 1 = hc at *
  have fc : frm (cW k_161) h hc := fc
  have c0 : hc.2.1 93 0 = h.2.1 93 0 := frI fc (by rfl)
  refine hQ _ hc gc (mimg_ok gc (fun h' z1 z2 z3 _ _ _ _ _ _ _ => ⟨_, rfl, z1.hs, ?_⟩))
  rw [c0, ← hi.2.2.2.2.2.2.1]
  refine hK _ h' ?_
  have f : frm WIM h h' := frm_trans (frm_mono (by decide) fc) (frm_mono (by decide) z2)
  obtain ⟨y1, y2, y3, y4, -⟩ := z3
  refine INV_of (W := WIM) (by decide) hi z1 f ?_ ?_ ?_ ?_ ?_ ?_ ?_ ?_
  · rw [frI f rfl]; exact hi.2.1.1.1
  · rw [y2, frI fc rfl]; exact hi.2.1.1.1
  · rw [frI f rfl]; exact hi.2.2.1
  · rw [frI f rfl]; exact hi.2.2.2.1
  · rw [y4, frI fc rfl]; exact hi.2.2.2.1
  · rw [frI f rfl, frI f rfl]; exact hi.2.2.2.2.2.2.1
  · rw [frI z2 (a := 9) rfl, c9, y3, c0]; exact hi.2.2.2.2.2.2.1
  · rw [frI z2 (a := 0) rfl, c2, y1]
/-! undo -/
def WUN : List (Nat × Nat) := cW k_163 ++ Wmun
theorem und_pair {X : Scr} {dp : Nat} {h : Hp} {Q : Option Value → Hp → Prop} (hi : INV h) {K : Hp → Int32 → Int32 → Prop} (hK : ∀ r h', INV h' → K h' r r) (hQ : ∀ r h1, HI h1 → Ends X (dp + 1) 185 0 [.ref 93, .retAddr 0] [] h1 (fun w h2 => ∃ r2, w = some (.int r2) ∧ HS h2 ∧ K h2 r r2) → Q (some (.int r)) h1) : Ends X (dp + 1) 90 0 [.ref 0] [] h Q := by
  have hh := hi.1
  obtain ⟨-, ⟨⟨t1, t2, t3⟩, j1⟩, hg, hs9, hq9, hrx, r1, r2, r3⟩ := id hi
  have e1 := cund_ok (X := X) (dp := dp) (h := h) (Q := fun v h' => ((h.2.1 0 2).toInt = 0 ∧ v = some (.int (-3)) ∧ h' = h) ∨ (¬ (h.2.1 0 2).toInt = 0 ∧ v = some (.int (h.2.1 9 0)) ∧ h' = bec h 1 9)) hh.hs (fun q => Or.inl ⟨q, rfl, rfl⟩) (fun q => Or.inr ⟨q, rfl, rfl⟩)
  have e2 := gd1 163 (T := k_163) (by rfl) X (dp + 1) (fun _ => 0) h [.ref 0] (by show 1 ≤ dp + 1; omega) hh (fun q => by cases q) (fun v q hq => by cases hq) ⟨⟨0, rfl, List.mem_singleton.mpr rfl⟩, trivial⟩ (fun q hq => by cases hq)
  refine (e1.and e2).mono ?_
  rintro v hc ⟨⟨q, rfl, rfl⟩ | ⟨q, rfl, rfl⟩, gc, fc, -⟩
  · refine hQ _ _ gc (mund_ok gc (fun _ => ⟨_, rfl, gc.hs, hK _ _ hi⟩) (fun n => absurd q ?_))
    rw [r3]
    exact n
  · have c1 : (bec h 1 9).2.1 1 0 = h.2.1 9 0 := bec_0
    generalize bec h 1 9 = hc at *
    have fc : frm (cW k_163) h hc := fc
    have c44 : hc.2.1 93 44 = h.2.1 93 44 := frI fc rfl
    have c46 : hc.2.1 93 46 = h.2.1 93 46 := frI fc rfl
    refine hQ _ hc gc (mund_ok gc (fun n => absurd n (by rw [c44, ← r3]; exact q)) (fun _ h' z1 z2 z3 _ _ _ _ _ _ _ => ⟨_, rfl, z1.hs, ?_⟩))
    rw [c46, ← r2]
    refine hK _ h' ?_
    have f : frm WUN h h' := frm_trans (frm_mono (by decide) fc) (frm_mono (by decide) z2)
    obtain ⟨y1, y2, y3, -⟩ := z3
    refine INV_of (W := WUN) (by decide) hi z1 f ?_ ?_ ?_ ?_ ?_ ?_ ?_ ?_
    · rw [y1, frI fc rfl]; exact t2
    · rw [frI f rfl]; exact t2
    · rw [frI f rfl]; exact hg
    · rw [y3, frI fc rfl]; exact hq9
    · rw [frI f rfl]; exact hq9
    · rw [frI z2 (a := 1) rfl, c1, y2, c46, r2]
    · rw [frI f rfl, frI f rfl]; exact r2
    · rw [frI f rfl, frI f rfl]; exact r3
