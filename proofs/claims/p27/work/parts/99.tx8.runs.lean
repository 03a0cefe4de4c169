/-! The ways chosen, those who run measured; the class's way. -/
theorem zsh_lt {S : Nat → Nat → Int} {R : Nat → Bool} {p : Nat} : ∀ {n o : Nat}, zsh S R p n = some o → o < n
  | 0, o, h => by cases h
  | n + 1, o, h => by
    rw [zsh] at h
    split at h
    · cases h
      exact Nat.lt_succ_self _
    · exact Nat.lt_succ_of_lt (zsh_lt h)
/-- ranges of the rows told -/
def SR5 (S : Nat → Nat → Int) : Prop := ∀ i, i < 28 → 0 ≤ S 5 i ∧ S 5 i ≤ 6
theorem zway_b {S : Nat → Nat → Int} {Y : Int} {R : Nat → Bool} {M : Nat → Nat} (hsr : SRG S) (h5 : SR5 S) (hM : ∀ l, M l ≤ 7) {p : Nat} (h7 : p < 7) : 0 ≤ zway S Y R M p ∧ zway S Y R M p ≤ 6 := by
  have sr := (hsr p h7).2.2.1
  unfold zway
  split
  · split <;> omega
  · split
    · unfold zshl
      split
      · exact sr
      · rename_i o ho
        exact (hsr o (zsh_lt ho)).2.2.1
    · split
      · have := (zsk_b M hM (S 2 p) 7).2 (by decide)
        omega
      · split
        · exact h5 _ (by omega)
        · exact sr
theorem iv_35 : ∀ k, k < 7 → ivl 35 k = (0, 6) := by
  have : ((List.range 7).all (fun k => decide (ivl 35 k = (0, 6)))) = true := by decide +kernel
  exact fun k hk => of_decide_eq_true (List.all_eq_true.mp this k (List.mem_range.mpr hk))
theorem HI_35 {h : Hp} {k : Nat} {x : Int32} (hh : HI h) (hk : k < 7) (h0 : 0 ≤ x.toInt) (h6 : x.toInt ≤ 6) : HI (hpI h 35 k x) := HI_put hh (by rw [iv_35 k hk]; exact h0) (by rw [iv_35 k hk]; exact h6)
def WCW : List (Nat × Nat) := [(35, 999)]
theorem WCW_X {h h' : Hp} (hf : frm WCW h h') : frm WCX h h' := frm_sub (V := WCW) (by decide) hf
theorem WCW_in {k : Nat} : inW WCW 35 k = true := by simp [inW, WCW]
def WMR : List (Nat × Nat) := [(31, 999), (36, 999)]
theorem WMR_X {h h' : Hp} (hf : frm WMR h h') : frm WCX h h' := frm_sub (V := WMR) (by decide) hf
theorem WMR_in {k : Nat} : inW WMR 36 k = true := by simp [inW, WMR]
/-- who follows whom: nobody, or two who run -/
def FOK (fo le : Int) (N : Nat) (R : Nat → Bool) : Prop := fo = -1 ∨ (0 ≤ fo ∧ fo < N ∧ 0 ≤ le ∧ le < N ∧ fo ≠ le ∧ R fo.toNat = true ∧ R le.toNat = true)
/-- the ways, one sent, one behind another -/
def zcw (W : Nat → Int) (fo le : Int) (x : Nat) : Int := if (x : Int) = fo then W le.toNat else W x
def zsnt (W : Nat → Int) (one tol : Int) (x : Nat) : Int := if (x : Int) = one then tol else W x
def zslip (S : Nat → Nat → Int) (Y : Int) (cs : List Cl) (m : List Int) (wy : Nat → Int) (p : Nat) : Int := S 4 p + S 3 p + zsum m (zfc S Y p (wy p)) 2 cs + (if S 0 p = 4 then S 1 p else 0)
section RUNS
variable {X : Scr} {Q : Option Value → Hp → Prop}
theorem hasg_ok {dp : Nat} {h : Hp} (hs : HS h) (pI : Int32) (N : Nat) (hN : (h.2.1 18 0).toInt = N) (hN7 : N ≤ 7) (hQ : Q (some (.int (b2i (decide (0 ≤ pI.toInt ∧ pI.toInt < N))))) h) : Ends X dp 26 0 [.ref 18, .int pI] [] h Q := by
  refine w_hasg pI hs ⟨fun e => ?_, fun e => ⟨fun e2 => ?_, fun e2 => ⟨fun e3 => ?_, fun e3 => ?_⟩⟩⟩
  · have e : pI.toInt < (0 : Int32).toInt := of_decide_eq_true (cI e)
    rw [decide_eq_false (fun z => by have := z.1; rw [z0] at e; omega)] at hQ
    exact hQ
  · have e2 : (h.2.1 18 0).toInt ≤ pI.toInt := of_decide_eq_true (cI e2)
    rw [decide_eq_false (fun z => by have := z.2; omega)] at hQ
    exact hQ
  · exfalso
    have e2 : ¬ (h.2.1 18 0).toInt ≤ pI.toInt := of_decide_eq_false (cI e2)
    have e3 : (7 : Int32).toInt ≤ pI.toInt := of_decide_eq_true (cI e3)
    have j7 : (7 : Int32).toInt = 7 := rfl
    omega
  · have e : ¬ pI.toInt < (0 : Int32).toInt := of_decide_eq_false (cI e)
    have e2 : ¬ (h.2.1 18 0).toInt ≤ pI.toInt := of_decide_eq_false (cI e2)
    rw [z0] at e
    rw [decide_eq_true ⟨by omega, by omega⟩] at hQ
    exact hQ
theorem cw_go {dp : Nat} {S : Nat → Nat → Int} {Y : Int} (hsr : SRG S) (h5 : SR5 S) (hY0 : 0 ≤ Y) (R : Nat → Bool) (Z : Nat → Nat → Bool) (one tol fo le : Int) (N : Nat) (hN7 : N ≤ 7) (hfo : FOK fo le N R) : ∀ (n p : Nat) (pI : Int32) (h : Hp), p + n = 7 → pI.toInt = p → HI h → CG h S Y → (∀ j, j < 7 → BSET (h.2.1 32 j) (Z j)) → BSET (h.2.1 17 11) R → (h.2.1 18 0).toInt = N → (h.2.1 17 13).toInt = one → (h.2.1 17 14).toInt = tol → (h.2.1 17 15).toInt = fo → (0 ≤ fo → (h.2.1 17 16).toInt = le) → (∀ x, x < p → R x = true → (h.2.1 35 x).toInt = zsnt (zway S Y R (fun l => pop (Z l))) one tol x) → (∀ h', HI h' → frm WCW h h' → (∀ x, x < 7 → R x = true → (h'.2.1 35 x).toInt = zcw (zsnt (zway S Y R (fun l => pop (Z l))) one tol) fo le x) → Q none h') → Ends X (dp + 1 + 1 + 1) 13 2 [.ref 17, .int pI] [] h Q
  | n, p, pI, h, hn, hp, hh, hg, hB, hR, hN, h13, h14, h15, h16, hW, hQ => by
    have j7 : (7 : Int32).toInt = 7 := rfl
    refine w_cw1 pI hh.hs ⟨fun e => ?_, fun e => ?_⟩
    · have e : (7 : Int32).toInt ≤ pI.toInt := of_decide_eq_true (cI e)
      have : p = 7 := by omega
      subst this
      refine hasg_ok hh.hs _ N hN hN7 ⟨_, rfl, hh.hs, fun c => ?_, fun c => ?_⟩
      · have c := of_decide_eq_false (cz c)
        have f1 : fo = -1 := by
          rcases hfo with f | f
          · exact f
          · exact absurd ⟨by rw [h15]; exact f.1, by rw [h15]; exact f.2.1⟩ c
        refine hQ h hh frm_refl (fun x hx hr => ?_)
        unfold zcw
        rw [if_neg (by omega)]
        exact hW x hx hr
      · have c := of_decide_eq_true (cn c)
        rw [h15] at c
        have f := hfo.resolve_left (by omega)
        have l16 := h16 c.1
        refine hasg_ok hh.hs _ N hN hN7 ⟨_, rfl, hh.hs, fun c2 => ?_, fun c2 => ⟨inB_iff (by omega) (by omega), inB_iff (by omega) (by omega), ?_⟩⟩
        · have c2 := of_decide_eq_false (cz c2)
          rw [l16] at c2
          exact absurd ⟨f.2.2.1, f.2.2.2.1⟩ c2
        · have ef : (h.2.1 17 15).toNatClampNeg = fo.toNat := by show (h.2.1 17 15).toInt.toNat = _; rw [h15]
          have el : (h.2.1 17 16).toNatClampNeg = le.toNat := by show (h.2.1 17 16).toInt.toNat = _; rw [l16]
          rw [ef, el]
          have lw := hW le.toNat (by omega) f.2.2.2.2.2.2
          have lr := hh.iv 35 le.toNat (r := (0, 6)) (iv_35 _ (by omega))
          refine hQ _ (HI_35 hh (by omega) lr.1 lr.2) (frm_put frm_refl WCW_in) (fun x hx hr => ?_)
          unfold zcw
          rw [put_if]
          by_cases d : x = fo.toNat
          · rw [if_pos d, if_pos (by omega)]
            exact lw
          · rw [if_neg d, if_neg (by omega)]
            exact hW x hx hr
    have e : ¬ (7 : Int32).toInt ≤ pI.toInt := of_decide_eq_false (cI e)
    have h7 : p < 7 := by omega
    have ip : inB pI 7 = true := inB_iff (by omega) (by omega)
    have en : pI.toNatClampNeg = p := by show pI.toInt.toNat = _; omega
    have n1 : (pI + 1).toInt = ((p + 1 : Nat) : Int) := by rw [i_add (by rw [i1]; omega) (by rw [i1]; omega), i1]; omega
    obtain ⟨n, rfl⟩ : ∃ k, n = k + 1 := ⟨n - 1, by omega⟩
    have next : ∀ (r : Int32), r.toInt = zsnt (zway S Y R (fun l => pop (Z l))) one tol p → 0 ≤ r.toInt → r.toInt ≤ 6 → Ends X (dp + 1 + 1 + 1) 13 2 [.ref 17, .int (pI + 1)] [] (hpI h 35 p r) Q := by
      intro r hr r0 r6
      have f1 : frm WCW h (hpI h 35 p r) := frm_put frm_refl WCW_in
      refine cw_go hsr h5 hY0 R Z one tol fo le N hN7 hfo n (p + 1) (pI + 1) _ (by omega) n1 (HI_35 hh h7 r0 r6) (hg.fr (WCW_X f1)) (fun j hj => by rw [put_ne (by omega)]; exact hB j hj) (by rw [put_ne (by omega)]; exact hR) (by rw [put_ne (by omega)]; exact hN) (by rw [put_ne (by omega)]; exact h13) (by rw [put_ne (by omega)]; exact h14) (by rw [put_ne (by omega)]; exact h15) (fun z => by rw [put_ne (by omega)]; exact h16 z) (fun x hx hk => ?_) (fun h' a1 a2 a3 => hQ h' a1 (frm_trans f1 a2) a3)
      rw [put_if]
      by_cases d : x = p
      · rw [if_pos d, d]
        exact hr
      · rw [if_neg d]
        exact hW x (by omega) hk
    refine isin_ok hR hp h7 hh.hs ⟨_, rfl, hh.hs, fun c => ?_, fun c => ⟨fun c2 => ?_, fun c2 => ⟨ip, ?_⟩⟩⟩
    · have c := cz c
      refine cw_go hsr h5 hY0 R Z one tol fo le N hN7 hfo n (p + 1) (pI + 1) h (by omega) n1 hh hg hB hR hN h13 h14 h15 h16 (fun x hx hk => ?_) hQ
      by_cases d : x = p
      · rw [d, c] at hk
        cases hk
      · exact hW x (by omega) hk
    · have c2 : ¬ pI.toInt = (h.2.1 17 13).toInt := of_decide_eq_true (cI c2)
      refine way_ok hsr hg hh R Z hB pI p hp h7 hR hY0 (fun r hr => ⟨r, rfl, hh.hs, ip, ?_⟩)
      rw [en]
      have wb := zway_b (Y := Y) (R := R) (M := fun l => pop (Z l)) hsr h5 (fun l => pop_le _) h7
      refine next r ?_ (by omega) (by omega)
      unfold zsnt
      rw [if_neg (by omega)]
      exact hr
    · have c2 : ¬ ¬ pI.toInt = (h.2.1 17 13).toInt := of_decide_eq_false (cI c2)
      rw [en]
      have tr := hh.iv 17 14 (r := (0, 6)) rfl
      refine next _ ?_ tr.1 tr.2
      unfold zsnt
      rw [if_pos (by omega)]
      exact h14
theorem cw_ok {dp : Nat} {S : Nat → Nat → Int} {Y : Int} (hsr : SRG S) (h5 : SR5 S) (hY0 : 0 ≤ Y) (R : Nat → Bool) (Z : Nat → Nat → Bool) (one tol fo le : Int) (N : Nat) (hN7 : N ≤ 7) (hfo : FOK fo le N R) {h : Hp} (hh : HI h) (hg : CG h S Y) (hB : ∀ j, j < 7 → BSET (h.2.1 32 j) (Z j)) (hR : BSET (h.2.1 17 11) R) (hN : (h.2.1 18 0).toInt = N) (h13 : (h.2.1 17 13).toInt = one) (h14 : (h.2.1 17 14).toInt = tol) (h15 : (h.2.1 17 15).toInt = fo) (h16 : 0 ≤ fo → (h.2.1 17 16).toInt = le) (hQ : ∀ h', HI h' → frm WCW h h' → (∀ x, x < 7 → R x = true → (h'.2.1 35 x).toInt = zcw (zsnt (zway S Y R (fun l => pop (Z l))) one tol) fo le x) → Q none h') : Ends X (dp + 1 + 1 + 1) 13 0 [.ref 17, .retAddr 0] [] h Q :=
  w_cw0 hh.hs (cw_go hsr h5 hY0 R Z one tol fo le N hN7 hfo 7 0 0 h (by decide) rfl hh hg hB hR hN h13 h14 h15 h16 (fun x hx => absurd hx (Nat.not_lt_zero x)) hQ)
theorem mr_go {dp q : Nat} (hY : YB q) {S : Nat → Nat → Int} {Y : Int} {cs : List Cl} {m : List Int} (hsr : SRG S) (hw : YOK cs m) (R : Nat → Bool) (wy : Nat → Int) : ∀ (n p : Nat) (pI : Int32) (h : Hp), p + n = 7 → pI.toInt = p → HI h → CG h S Y → YR q h cs m → BSET (h.2.1 17 11) R → (∀ x, x < 7 → R x = true → (h.2.1 35 x).toInt = wy x) → (∀ x, x < p → R x = true → (h.2.1 36 x).toInt = zslip S Y cs m wy x) → (∀ h', HI h' → frm WMR h h' → (∀ x, x < 7 → R x = true → (h'.2.1 36 x).toInt = zslip S Y cs m wy x) → Q none h') → Ends X (dp + 1 + 1 + 1) 14 2 [.ref 17, .int pI] [] h Q
  | n, p, pI, h, hn, hp, hh, hg, hr, hR, hw35, hM, hQ => by
    have j7 : (7 : Int32).toInt = 7 := rfl
    refine w_mr1 hY pI hh.hs ⟨fun e => ?_, fun e => ?_⟩
    · have e : (7 : Int32).toInt ≤ pI.toInt := of_decide_eq_true (cI e)
      have : p = 7 := by omega
      subst this
      exact hQ h hh frm_refl hM
    have e : ¬ (7 : Int32).toInt ≤ pI.toInt := of_decide_eq_false (cI e)
    have h7 : p < 7 := by omega
    have ip : inB pI 7 = true := inB_iff (by omega) (by omega)
    have en : pI.toNatClampNeg = p := by show pI.toInt.toNat = _; omega
    have n1 : (pI + 1).toInt = ((p + 1 : Nat) : Int) := by rw [i_add (by rw [i1]; omega) (by rw [i1]; omega), i1]; omega
    obtain ⟨n, rfl⟩ : ∃ k, n = k + 1 := ⟨n - 1, by omega⟩
    refine isin_ok hR hp h7 hh.hs ⟨_, rfl, hh.hs, fun c => ?_, fun c => ⟨ip, ?_⟩⟩
    · have c := cz c
      refine mr_go hY hsr hw R wy n (p + 1) (pI + 1) h (by omega) n1 hh hg hr hR hw35 (fun x hx hk => ?_) hQ
      by_cases d : x = p
      · rw [d, c] at hk
        cases hk
      · exact hM x (by omega) hk
    · have c := cn c
      rw [en]
      have la := hw35 p h7 c
      refine lrn_ok pI (h.2.1 35 p) p hp h7 hh hg (fun h1 a1 a2 a3 => ⟨rfl, a1.hs, ip, ip, ?_⟩)
      rw [la] at a3
      have f1 : frm WMR h h1 := frm_sub (V := WLR) (by decide) a2
      have g1 := hg.fr (WMR_X f1)
      have r1 := hr.fr hY (WMR_X f1)
      obtain ⟨k1, k2, k3, k4, k5⟩ := g1.1 p h7
      have sr := hsr p h7
      have bz := hw.b (zfc S Y p (wy p)) 2
      have two : (2 : Int32).toInt = 2 := rfl
      have z0' : (0 : Int32).toInt = 0 := rfl
      have next : ∀ (x : Int32), x.toInt = zslip S Y cs m wy p → Ends X (dp + 1 + 1 + 1) 14 2 [.ref 17, .int (pI + 1)] [] (hpI h1 36 p x) Q := by
        intro x hx
        have f2 : frm WMR h (hpI h1 36 p x) := frm_put f1 WMR_in
        refine mr_go hY hsr hw R wy n (p + 1) (pI + 1) _ (by omega) n1 (HI_full a1 (iv_full36 p h7)) (hg.fr (WMR_X f2)) (hr.fr hY (WMR_X f2)) (by rw [frI f2 (a := 17) rfl]; exact hR) (fun y hy hk => by rw [frI f2 (a := 35) rfl]; exact hw35 y hy hk) (fun y hy hk => ?_) (fun h' d1 d2 d3 => hQ h' d1 (frm_trans f2 d2) d3)
        rw [put_if]
        by_cases d : y = p
        · rw [if_pos d, d]
          exact hx
        · rw [if_neg d, frI a2 (a := 36) rfl]
          exact hM y (by omega) hk
      refine ⟨r1.1, ytog_ok hY r1.2 hw.1 hw.2.1 hw.2.2 _ a3 a1.hs 2 (fun r hr14 => ⟨r, rfl, a1.hs, ip, fun c2 => ⟨ip, ?_⟩, fun c2 => ⟨ip, ip, ?_⟩⟩)⟩
      all_goals
        rw [two] at hr14
        have s1 : (h1.2.1 23 p + h1.2.1 22 p).toInt = S 4 p + S 3 p := by rw [i_add (by omega) (by omega), k5, k4]
        have s2 : ((h1.2.1 23 p + h1.2.1 22 p) + r).toInt = S 4 p + S 3 p + zsum m (zfc S Y p (wy p)) 2 cs := by rw [i_add (by omega) (by omega), s1, hr14]
      · have c2 : ¬ (h1.2.1 19 p).toInt = (4 : Int32).toInt := of_decide_eq_true (cI c2)
        have j4 : (4 : Int32).toInt = 4 := rfl
        refine next _ ?_
        unfold zslip
        rw [if_neg (by omega), i_add (by omega) (by omega), s2, z0']
      · have c2 : ¬ ¬ (h1.2.1 19 p).toInt = (4 : Int32).toInt := of_decide_eq_false (cI c2)
        have j4 : (4 : Int32).toInt = 4 := rfl
        refine next _ ?_
        unfold zslip
        rw [if_pos (by omega), i_add (by omega) (by omega), s2, k2]
theorem mr_ok {dp q : Nat} (hY : YB q) {S : Nat → Nat → Int} {Y : Int} {cs : List Cl} {m : List Int} (hsr : SRG S) (hw : YOK cs m) (R : Nat → Bool) (wy : Nat → Int) {h : Hp} (hh : HI h) (hg : CG h S Y) (hr : YR q h cs m) (hR : BSET (h.2.1 17 11) R) (hw35 : ∀ x, x < 7 → R x = true → (h.2.1 35 x).toInt = wy x) (hQ : ∀ h', HI h' → frm WMR h h' → (∀ x, x < 7 → R x = true → (h'.2.1 36 x).toInt = zslip S Y cs m wy x) → Q none h') : Ends X (dp + 1 + 1 + 1) 14 0 [.ref 17, .retAddr 0] [] h Q :=
  w_mr0 hY hh.hs (mr_go hY hsr hw R wy 7 0 0 h (by decide) rfl hh hg hr hR hw35 (fun x hx => absurd hx (Nat.not_lt_zero x)) hQ)
/-- the hold of those together -/
def zheld (H : Nat → Int) (f : Nat → Bool) : Nat → Int
  | 0 => 0
  | n + 1 => zheld H f n + (if f n = true then H n else 0)
theorem zheld_b {H : Nat → Int} {f : Nat → Bool} (hH : ∀ x, x < 7 → f x = true → 0 ≤ H x ∧ H x ≤ 1000) : ∀ n, n ≤ 7 → 0 ≤ zheld H f n ∧ zheld H f n ≤ 1000 * (n : Int)
  | 0, _ => ⟨Int.le_refl _, Int.le_refl _⟩
  | n + 1, h => by
    have i := zheld_b hH n (by omega)
    have j := hH n (by omega)
    show 0 ≤ zheld H f n + (if f n = true then H n else 0) ∧ zheld H f n + (if f n = true then H n else 0) ≤ 1000 * ((n + 1 : Nat) : Int)
    split
    · rename_i c
      have := j c
      omega
    · omega
theorem hof_go {dp : Nat} {h : Hp} (hh : HI h) (tI : Int32) (f : Nat → Bool) (ht : BSET tI f) (H : Nat → Int) (hH : ∀ x, x < 7 → f x = true → 0 ≤ H x ∧ H x ≤ 1000) (h34 : ∀ x, x < 7 → f x = true → (h.2.1 34 x).toInt = H x) (hQ : ∀ r : Int32, r.toInt = zheld H f 7 → Q (some (.int r)) h) : ∀ (n p : Nat) (pI sI : Int32), p + n = 7 → pI.toInt = p → sI.toInt = zheld H f p → Ends X (dp + 1) 19 4 [.ref 17, .int tI, .int sI, .int pI] [] h Q
  | n, p, pI, sI, hn, hp, hs => by
    have j7 : (7 : Int32).toInt = 7 := rfl
    refine w_hof1 tI sI pI hh.hs ⟨fun e => ?_, fun e => ?_⟩
    · have e : (7 : Int32).toInt ≤ pI.toInt := of_decide_eq_true (cI e)
      have : p = 7 := by omega
      subst this
      exact hQ sI hs
    have e : ¬ (7 : Int32).toInt ≤ pI.toInt := of_decide_eq_false (cI e)
    have h7 : p < 7 := by omega
    have ip : inB pI 7 = true := inB_iff (by omega) (by omega)
    have en : pI.toNatClampNeg = p := by show pI.toInt.toNat = _; omega
    have n1 : (pI + 1).toInt = ((p + 1 : Nat) : Int) := by rw [i_add (by rw [i1]; omega) (by rw [i1]; omega), i1]; omega
    obtain ⟨n, rfl⟩ : ∃ k, n = k + 1 := ⟨n - 1, by omega⟩
    have b := zheld_b hH p (by omega)
    refine isin_ok ht hp h7 hh.hs ⟨_, rfl, hh.hs, fun c => ?_, fun c => ⟨ip, ?_⟩⟩
    · have c := cz c
      refine hof_go hh tI f ht H hH h34 hQ n (p + 1) (pI + 1) sI (by omega) n1 ?_
      show sI.toInt = zheld H f p + (if f p = true then H p else 0)
      rw [if_neg (by rw [c]; exact Bool.false_ne_true), hs]
      omega
    · have c := cn c
      rw [en]
      have x := h34 p h7 c
      have y := hH p h7 c
      refine hof_go hh tI f ht H hH h34 hQ n (p + 1) (pI + 1) _ (by omega) n1 ?_
      show (sI + h.2.1 34 p).toInt = zheld H f p + (if f p = true then H p else 0)
      rw [if_pos c, i_add (by omega) (by omega), hs, x]
theorem hof_ok {dp : Nat} {h : Hp} (hh : HI h) (tI : Int32) (f : Nat → Bool) (ht : BSET tI f) (H : Nat → Int) (hH : ∀ x, x < 7 → f x = true → 0 ≤ H x ∧ H x ≤ 1000) (h34 : ∀ x, x < 7 → f x = true → (h.2.1 34 x).toInt = H x) (hQ : ∀ r : Int32, r.toInt = zheld H f 7 → Q (some (.int r)) h) : Ends X (dp + 1) 19 0 [.ref 17, .int tI, .retAddr 0, .retAddr 0] [] h Q :=
  w_hof0 tI hh.hs (hof_go hh tI f ht H hH h34 hQ 7 0 0 0 (by decide) rfl rfl)
end RUNS
