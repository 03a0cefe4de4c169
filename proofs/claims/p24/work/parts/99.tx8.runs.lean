section JN99tx8runs
/-! The ways chosen, those who run measured; the class's way. -/
theorem zsh_lt {S : Nat → Nat → Int} {R : Nat → Bool} {p : Nat} : ∀ {n o : Nat}, zsh S R p n = some o → o < n
  | 0, o, h => by cases h
  | n + 1, o, h => by
    rw [zsh] at h
    split at h
    · cases h
      exact Nat.lt_succ_self _
    · exact Nat.lt_succ_of_lt (zsh_lt h)
/-- ranges of the rows told -/
def SR5 (S : Nat → Nat → Int) : Prop := ∀ i, i < 28 → 0 ≤ S 5 i ∧ S 5 i ≤ 6
theorem zway_b {S : Nat → Nat → Int} {Y : Int} {R : Nat → Bool} {M : Nat → Nat} (hsr : SRG S) (h5 : SR5 S) (hM : ∀ l, M l ≤ 7) {p : Nat} (h7 : p < 7) : 0 ≤ zway S Y R M p ∧ zway S Y R M p ≤ 6 := by
  have sr := (hsr p h7).2.2.1
  unfold zway
  split
  · split <;> omega
  · split
    · unfold zshl
      split
      · exact sr
      · rename_i o ho
        exact (hsr o (zsh_lt ho)).2.2.1
    · split
      · have := (zsk_b M hM (S 2 p) 7).2 (by decide)
        omega
      · split
        · exact h5 _ (by omega)
        · exact sr
theorem iv_35 : ∀ k, k < 7 → ivl 35 k = (0, 6) := by
  have : ((List.range 7).all (fun k => decide (ivl 35 k = (0, 6)))) = true := by decide +kernel
  exact fun k hk => of_decide_eq_true (List.all_eq_true.mp this k (List.mem_range.mpr hk))
theorem HI_35 {h : Hp} {k : Nat} {x : Int32} (hh : HI h) (hk : k < 7) (h0 : 0 ≤ x.toInt) (h6 : x.toInt ≤ 6) : HI (hpI h 35 k x) := HI_put hh (by rw [iv_35 k hk]; exact h0) (by rw [iv_35 k hk]; exact h6)
def WCW : List (Nat × Nat) := [(35, 999)]
theorem WCW_X {h h' : Hp} (hf : frm WCW h h') : frm WCX h h' := frm_sub (V := WCW) (by decide) hf
theorem WCW_in {k : Nat} : inW WCW 35 k = true := by simp [inW, WCW]
def WMR : List (Nat × Nat) := [(31, 999), (36, 999)]
theorem WMR_X {h h' : Hp} (hf : frm WMR h h') : frm WCX h h' := frm_sub (V := WMR) (by decide) hf
theorem WMR_in {k : Nat} : inW WMR 36 k = true := by simp [inW, WMR]
/-- who follows whom: nobody, or two who run -/
def FOK (fo le : Int) (N : Nat) (R : Nat → Bool) : Prop := fo = -1 ∨ (0 ≤ fo ∧ fo < N ∧ 0 ≤ le ∧ le < N ∧ fo ≠ le ∧ R fo.toNat = true ∧ R le.toNat = true)
/-- the ways, one sent, one behind another -/
def zcw (W : Nat → Int) (fo le : Int) (x : Nat) : Int := if (x : Int) = fo then W le.toNat else W x
def zsnt (W : Nat → Int) (one tol : Int) (x : Nat) : Int := if (x : Int) = one then tol else W x
def zslip (S : Nat → Nat → Int) (Y : Int) (cs : List Cl) (m : List Int) (wy : Nat → Int) (p : Nat) : Int := S 4 p + S 3 p + zsum m (zfc S Y p (wy p)) 2 cs + (if S 0 p = 4 then S 1 p else 0)
section RUNS
variable {X : Scr} {Q : Option Value → Hp → Prop}
theorem hasg_ok {dp : Nat} {h : Hp} (hs : HS h) (pI : Int32) (N : Nat) (hN : (h.2.1 18 0).toInt = N) (hN7 : N ≤ 7) (hQ : Q (some (.int (b2i (decide (0 ≤ pI.toInt ∧ pI.toInt < N))))) h) : Ends X dp 26 0 [.ref 18, .int pI] [] h Q := by
  refine w_hasg pI hs ⟨fun e => ?_, fun e => ⟨fun e2 => ?_, fun e2 => ⟨fun e3 => ?_, fun e3 => ?_⟩⟩⟩
  · have e : pI.toInt < (0 : Int32).toInt := of_decide_eq_true (cI e)
    rw [decide_eq_false (fun z => by have := z.1; rw [z0] at e; omega)] at hQ
    exact hQ
  · have e2 : (h.2.1 18 0).toInt ≤ pI.toInt := of_decide_eq_true (cI e2)
    rw [decide_eq_false (fun z => by have := z.2; omega)] at hQ
    exact hQ
  · exfalso
    have e2 : ¬ (h.2.1 18 0).toInt ≤ pI.toInt := of_decide_eq_false (cI e2)
    have e3 : (7 : Int32).toInt ≤ pI.toInt := of_decide_eq_true (cI e3)
    have j7 : (7 : Int32).toInt = 7 := rfl
    omega
  · have e : ¬ pI.toInt < (0 : Int32).toInt := of_decide_eq_false (cI e)
    have e2 : ¬ (h.2.1 18 0).toInt ≤ pI.toInt := of_decide_eq_false (cI e2)
    rw [z0] at e
    rw [decide_eq_true ⟨by omega, by omega⟩] at hQ
    exact hQ
theorem cw_go {dp : Nat} {S : Nat → Nat → Int} {Y : Int} (hsr : SRG S) (h5 : SR5 S) (hY0 : 0 ≤ Y) (R : Nat → Bool) (Z : Nat → Nat → Bool) (one tol fo le : Int) (N : Nat) (hN7 : N ≤ 7) (hfo : FOK fo le N R) : ∀ (n p : Nat) (pI : Int32) (h : Hp), p + n = 7 → pI.toInt = p → HI h → CG h S Y → (∀ j, j < 7 → BSET (h.2.1 32 j) (Z j)) → BSET (h.2.1 17 11) R → (h.2.1 18 0).toInt = N → (h.2.1 17 13).toInt = one → (h.2.1 17 14).toInt = tol → (h.2.1 17 15).toInt = fo → (0 ≤ fo → (h.2.1 17 16).toInt = le) → (∀ x, x < p → R x = true → (h.2.1 35 x).toInt = zsnt (zway S Y R (fun l => pop (Z l))) one tol x) → (∀ h', HI h' → frm WCW h h' → (∀ x, x < 7 → R x = true → (h'.2.1 35 x).toInt = zcw (zsnt (zway S Y R (fun l => pop (Z l))) one tol) fo le x) → Q none h') → Ends X (dp + 1 + 1 + 1) 13 2 [.ref 17, .int pI] [] h Q
  | n, p, pI, h, hn, hp, hh, hg, hB, hR, hN, h13, h14, h15, h16, hW, hQ => by
    have j7 : (7 : Int32).toInt = 7 := rfl
    refine w_cw1 pI hh.hs ⟨fun e => ?_, fun e => ?_⟩
    · have e : (7 : Int32).toInt ≤ pI.toInt := of_decide_eq_true (cI e)
      have : p = 7 := by omega
      subst this
      refine hasg_ok hh.hs _ N hN hN7 ⟨_, rfl, hh.hs, fun c => ?_, fun c => ?_⟩
      · have c := of_decide_eq_false (cz c)
        have f1 : fo = -1 := by
          rcases hfo with f | f
          · exact f
          · exact absurd ⟨by rw [h15]; exact f.1, by rw [h15]; exact f.2.1⟩ c
        refine hQ h hh frm_refl (fun x hx hr => ?_)
        unfold zcw
        rw [if_neg (by omega)]
        exact hW x hx hr
      · have c := of_decide_eq_true (cn c)
        rw [h15] at c
        have f := hfo.resolve_left (by omega)
        have l16 := h16 c.1
        refine hasg_ok hh.hs _ N hN hN7 ⟨_, rfl, hh.hs, fun c2 => ?_, fun c2 => ⟨inB_iff (by omega) (by omega), inB_iff (by omega) (by omega), ?_⟩⟩
        · have c2 := of_decide_eq_false (cz c2)
          rw [l16] at c2
          exact absurd ⟨f.2.2.1, f.2.2.2.1⟩ c2
        · have ef : (h.2.1 17 15).toNatClampNeg = fo.toNat := by show (h.2.1 17 15).toInt.toNat = _; rw [h15]
          have el : (h.2.1 17 16).toNatClampNeg = le.toNat := by show (h.2.1 17 16).toInt.toNat = _; rw [l16]
          rw [ef, el]
          have lw := hW le.toNat (by omega) f.2.2.2.2.2.2
          have lr := hh.iv 35 le.toNat (r := (0, 6)) (iv_35 _ (by omega))
          refine hQ _ (HI_35 hh (by omega) lr.1 lr.2) (frm_put frm_refl WCW_in) (fun x hx hr => ?_)
          unfold zcw
          rw [put_if]
          by_cases d : x = fo.toNat
          · rw [if_pos d, if_pos (by omega)]
            exact lw
          · rw [if_neg d, if_neg (by omega)]
            exact hW x hx hr
    have e : ¬ (7 : Int32).toInt ≤ pI.toInt := of_decide_eq_false (cI e)
    have h7 : p < 7 := by omega
    have ip : inB pI 7 = true := inB_iff (by omega) (by omega)
    have en : pI.toNatClampNeg = p := by show pI.toInt.toNat = _; omega
    have n1 : (pI + 1).toInt = ((p + 1 : Nat) : Int) := by rw [i_add (by rw [i1]; omega) (by rw [i1]; omega), i1]; omega
    obtain ⟨n, rfl⟩ : ∃ k, n = k + 1 := ⟨n - 1, by omega⟩
    have next : ∀ (r : Int32), r.toInt = zsnt (zway S Y R (fun l => pop (Z l))) one tol p → 0 ≤ r.toInt → r.toInt ≤ 6 → Ends X (dp + 1 + 1 + 1) 13 2 [.ref 17, .int (pI + 1)] [] (hpI h 35 p r) Q := by
      intro r hr r0 r6
      have f1 : frm WCW h (hpI h 35 p r) := frm_put frm_refl WCW_in
      refine cw_go hsr h5 hY0 R Z one tol fo le N hN7 hfo n (p + 1) (pI + 1) _ (by omega) n1 (HI_35 hh h7 r0 r6) (hg.fr (WCW_X f1)) (fun j hj => by rw [put_ne (by omega)]; exact hB j hj) (by rw [put_ne (by omega)]; exact hR) (by rw [put_ne (by omega)]; exact hN) (by rw [put_ne (by omega)]; exact h13) (by rw [put_ne (by omega)]; exact h14) (by rw [put_ne (by omega)]; exact h15) (fun z => by rw [put_ne (by omega)]; exact h16 z) (fun x hx hk => ?_) (fun h' a1 a2 a3 => hQ h' a1 (frm_trans f1 a2) a3)
      rw [put_if]
      by_cases d : x = p
      · rw [if_pos d, d]
        exact hr
      · rw [if_neg d]
        exact hW x (by omega) hk
    refine isin_ok hR hp h7 hh.hs ⟨_, rfl, hh.hs, fun c => ?_, fun c => ⟨fun c2 => ?_, fun c2 => ⟨ip, ?_⟩⟩⟩
    · have c := cz c
      refine cw_go hsr h5 hY0 R Z one tol fo le N hN7 hfo n (p + 1) (pI + 1) h (by omega) n1 hh hg hB hR hN h13 h14 h15 h16 (fun x hx hk => ?_) hQ
      by_cases d : x = p
      · rw [d, c] at hk
        cases hk
      · exact hW x (by omega) hk
    · have c2 : ¬ pI.toInt = (h.2.1 17 13).toInt := of_decide_eq_true (cI c2)
      refine way_ok hsr hg hh R Z hB pI p hp h7 hR hY0 (fun r hr => ⟨r, rfl, hh.hs, ip, ?_⟩)
      rw [en]
      have wb := zway_b (Y := Y) (R := R) (M := fun l => pop (Z l)) hsr h5 (fun l => pop_le _) h7
      refine next r ?_ (by omega) (by omega)
      unfold zsnt
      rw [if_neg (by omega)]
      exact hr
    · have c2 : ¬ ¬ pI.toInt = (h.2.1 17 13).toInt := of_decide_eq_false (cI c2)
      rw [en]
      have tr := hh.iv 17 14 (r := (0, 6)) rfl
      refine next _ ?_ tr.1 tr.2
      unfold zsnt
      rw [if_pos (by omega)]
      exact h14
theorem cw_ok {dp : Nat} {S : Nat → Nat → Int} {Y : Int} (hsr : SRG S) (h5 : SR5 S) (hY0 : 0 ≤ Y) (R : Nat → Bool) (Z : Nat → Nat → Bool) (one tol fo le : Int) (N : Nat) (hN7 : N ≤ 7) (hfo : FOK fo le N R) {h : Hp} (hh : HI h) (hg : CG h S Y) (hB : ∀ j, j < 7 → BSET (h.2.1 32 j) (Z j)) (hR : BSET (h.2.1 17 11) R) (hN : (h.2.1 18 0).toInt = N) (h13 : (h.2.1 17 13).toInt = one) (h14 : (h.2.1 17 14).toInt = tol) (h15 : (h.2.1 17 15).toInt = fo) (h16 : 0 ≤ fo → (h.2.1 17 16).toInt = le) (hQ : ∀ h', HI h' → frm WCW h h' → (∀ x, x < 7 → R x = true → (h'.2.1 35 x).toInt = zcw (zsnt (zway S Y R (fun l => pop (Z l))) one tol) fo le x) → Q none h') : Ends X (dp + 1 + 1 + 1) 13 0 [.ref 17, .retAddr 0] [] h Q :=
  w_cw0 hh.hs (cw_go hsr h5 hY0 R Z one tol fo le N hN7 hfo 7 0 0 h (by decide) rfl hh hg hB hR hN h13 h14 h15 h16 (fun x hx => absurd hx (Nat.not_lt_zero x)) hQ)
theorem mr_go {dp q : Nat} (hY : YB q) {S : Nat → Nat → Int} {Y : Int} {cs : List Cl} {m : List Int} (hsr : SRG S) (hw : YOK cs m) (R : Nat → Bool) (wy : Nat → Int) : ∀ (n p : Nat) (pI : Int32) (h : Hp), p + n = 7 → pI.toInt = p → HI h → CG h S Y → YR q h cs m → BSET (h.2.1 17 11) R → (∀ x, x < 7 → R x = true → (h.2.1 35 x).toInt = wy x) → (∀ x, x < p → R x = true → (h.2.1 36 x).toInt = zslip S Y cs m wy x) → (∀ h', HI h' → frm WMR h h' → (∀ x, x < 7 → R x = true → (h'.2.1 36 x).toInt = zslip S Y cs m wy x) → Q none h') → Ends X (dp + 1 + 1 + 1) 14 2 [.ref 17, .int pI] [] h Q
  | n, p, pI, h, hn, hp, hh, hg, hr, hR, hw35, hM, hQ => by
    have j7 : (7 : Int32).toInt = 7 := rfl
    refine w_mr1 hY pI hh.hs ⟨fun e => ?_, fun e => ?_⟩
    · have e : (7 : Int32).toInt ≤ pI.toInt := of_decide_eq_true (cI e)
      have : p = 7 := by omega
      subst this
      exact hQ h hh frm_refl hM
    have e : ¬ (7 : Int32).toInt ≤ pI.toInt := of_decide_eq_false (cI e)
    have h7 : p < 7 := by omega
    have ip : inB pI 7 = true := inB_iff (by omega) (by omega)
    have en : pI.toNatClampNeg = p := by show pI.toInt.toNat = _; omega
    have n1 : (pI + 1).toInt = ((p + 1 : Nat) : Int) := by rw [i_add (by rw [i1]; omega) (by rw [i1]; omega), i1]; omega
    obtain ⟨n, rfl⟩ : ∃ k, n = k + 1 := ⟨n - 1, by omega⟩
    refine isin_ok hR hp h7 hh.hs ⟨_, rfl, hh.hs, fun c => ?_, fun c => ⟨ip, ?_⟩⟩
    · have c := cz c
      refine mr_go hY hsr hw R wy n (p + 1) (pI + 1) h (by omega) n1 hh hg hr hR hw35 (fun x hx hk => ?_) hQ
      by_cases d : x = p
      · rw [d, c] at hk
        cases hk
      · exact hM x (by omega) hk
    · have c := cn c
      rw [en]
      have la := hw35 p h7 c
      refine lrn_ok pI (h.2.1 35 p) p hp h7 hh hg (fun h1 a1 a2 a3 => ⟨rfl, a1.hs, ip, ip, ?_⟩)
      rw [la] at a3
      have f1 : frm WMR h h1 := frm_sub (V := WLR) (by decide) a2
      have g1 := hg.fr (WMR_X f1)
      have r1 := hr.fr hY (WMR_X f1)
      obtain ⟨k1, k2, k3, k4, k5⟩ := g1.1 p h7
      have sr := hsr p h7
      have bz := hw.b (zfc S Y p (wy p)) 2
      have two : (2 : Int32).toInt = 2 := rfl
      have z0' : (0 : Int32).toInt = 0 := rfl
      have next : ∀ (x : Int32), x.toInt = zslip S Y cs m wy p → Ends X (dp + 1 + 1 + 1) 14 2 [.ref 17, .int (pI + 1)] [] (hpI h1 36 p x) Q := by
        intro x hx
        have f2 : frm WMR h (hpI h1 36 p x) := frm_put f1 WMR_in
        refine mr_go hY hsr hw R wy n (p + 1) (pI + 1) _ (by omega) n1 (HI_full a1 (iv_full36 p h7)) (hg.fr (WMR_X f2)) (hr.fr hY (WMR_X f2)) (by rw [frI f2 (a := 17) rfl]; exact hR) (fun y hy hk => by rw [frI f2 (a := 35) rfl]; exact hw35 y hy hk) (fun y hy hk => ?_) (fun h' d1 d2 d3 => hQ h' d1 (frm_trans f2 d2) d3)
        rw [put_if]
        by_cases d : y = p
        · rw [if_pos d, d]
          exact hx
        · rw [if_neg d, frI a2 (a := 36) rfl]
          exact hM y (by omega) hk
      refine ⟨r1.1, ytog_ok hY r1.2 hw.1 hw.2.1 hw.2.2 _ a3 a1.hs 2 (fun r hr14 => ⟨r, rfl, a1.hs, ip, fun c2 => ⟨ip, ?_⟩, fun c2 => ⟨ip, ip, ?_⟩⟩)⟩
      all_goals
        rw [two] at hr14
        have s1 : (h1.2.1 23 p + h1.2.1 22 p).toInt = S 4 p + S 3 p := by rw [i_add (by omega) (by omega), k5, k4]
        have s2 : ((h1.2.1 23 p + h1.2.1 22 p) + r).toInt = S 4 p + S 3 p + zsum m (zfc S Y p (wy p)) 2 cs := by rw [i_add (by omega) (by omega), s1, hr14]
      · have c2 : ¬ (h1.2.1 19 p).toInt = (4 : Int32).toInt := of_decide_eq_true (cI c2)
        have j4 : (4 : Int32).toInt = 4 := rfl
        refine next _ ?_
        unfold zslip
        rw [if_neg (by omega), i_add (by omega) (by omega), s2, z0']
      · have c2 : ¬ ¬ (h1.2.1 19 p).toInt = (4 : Int32).toInt := of_decide_eq_false (cI c2)
        have j4 : (4 : Int32).toInt = 4 := rfl
        refine next _ ?_
        unfold zslip
        rw [if_pos (by omega), i_add (by omega) (by omega), s2, k2]
theorem mr_ok {dp q : Nat} (hY : YB q) {S : Nat → Nat → Int} {Y : Int} {cs : List Cl} {m : List Int} (hsr : SRG S) (hw : YOK cs m) (R : Nat → Bool) (wy : Nat → Int) {h : Hp} (hh : HI h) (hg : CG h S Y) (hr : YR q h cs m) (hR : BSET (h.2.1 17 11) R) (hw35 : ∀ x, x < 7 → R x = true → (h.2.1 35 x).toInt = wy x) (hQ : ∀ h', HI h' → frm WMR h h' → (∀ x, x < 7 → R x = true → (h'.2.1 36 x).toInt = zslip S Y cs m wy x) → Q none h') : Ends X (dp + 1 + 1 + 1) 14 0 [.ref 17, .retAddr 0] [] h Q :=
  w_mr0 hY hh.hs (mr_go hY hsr hw R wy 7 0 0 h (by decide) rfl hh hg hr hR hw35 (fun x hx => absurd hx (Nat.not_lt_zero x)) hQ)
/-- the hold of those together -/
def zheld (H : Nat → Int) (f : Nat → Bool) : Nat → Int
  | 0 => 0
  | n + 1 => zheld H f n + (if f n = true then H n else 0)
theorem zheld_b {H : Nat → Int} {f : Nat → Bool} (hH : ∀ x, x < 7 → f x = true → 0 ≤ H x ∧ H x ≤ 1000) : ∀ n, n ≤ 7 → 0 ≤ zheld H f n ∧ zheld H f n ≤ 1000 * (n : Int)
  | 0, _ => ⟨Int.le_refl _, Int.le_refl _⟩
  | n + 1, h => by
    have i := zheld_b hH n (by omega)
    have j := hH n (by omega)
    show 0 ≤ zheld H f n + (if f n = true then H n else 0) ∧ zheld H f n + (if f n = true then H n else 0) ≤ 1000 * ((n + 1 : Nat) : Int)
    split
    · rename_i c
      have := j c
      omega
    · omega
theorem hof_go {dp : Nat} {h : Hp} (hh : HI h) (tI : Int32) (f : Nat → Bool) (ht : BSET tI f) (H : Nat → Int) (hH : ∀ x, x < 7 → f x = true → 0 ≤ H x ∧ H x ≤ 1000) (h34 : ∀ x, x < 7 → f x = true → (h.2.1 34 x).toInt = H x) (hQ : ∀ r : Int32, r.toInt = zheld H f 7 → Q (some (.int r)) h) : ∀ (n p : Nat) (pI sI : Int32), p + n = 7 → pI.toInt = p → sI.toInt = zheld H f p → Ends X (dp + 1) 19 4 [.ref 17, .int tI, .int sI, .int pI] [] h Q
  | n, p, pI, sI, hn, hp, hs => by
    have j7 : (7 : Int32).toInt = 7 := rfl
    refine w_hof1 tI sI pI hh.hs ⟨fun e => ?_, fun e => ?_⟩
    · have e : (7 : Int32).toInt ≤ pI.toInt := of_decide_eq_true (cI e)
      have : p = 7 := by omega
      subst this
      exact hQ sI hs
    have e : ¬ (7 : Int32).toInt ≤ pI.toInt := of_decide_eq_false (cI e)
    have h7 : p < 7 := by omega
    have ip : inB pI 7 = true := inB_iff (by omega) (by omega)
    have en : pI.toNatClampNeg = p := by show pI.toInt.toNat = _; omega
    have n1 : (pI + 1).toInt = ((p + 1 : Nat) : Int) := by rw [i_add (by rw [i1]; omega) (by rw [i1]; omega), i1]; omega
    obtain ⟨n, rfl⟩ : ∃ k, n = k + 1 := ⟨n - 1, by omega⟩
    have b := zheld_b hH p (by omega)
    refine isin_ok ht hp h7 hh.hs ⟨_, rfl, hh.hs, fun c => ?_, fun c => ⟨ip, ?_⟩⟩
    · have c := cz c
      refine hof_go hh tI f ht H hH h34 hQ n (p + 1) (pI + 1) sI (by omega) n1 ?_
      show sI.toInt = zheld H f p + (if f p = true then H p else 0)
      rw [if_neg (by rw [c]; exact Bool.false_ne_true), hs]
      omega
    · have c := cn c
      rw [en]
      have x := h34 p h7 c
      have y := hH p h7 c
      refine hof_go hh tI f ht H hH h34 hQ n (p + 1) (pI + 1) _ (by omega) n1 ?_
      show (sI + h.2.1 34 p).toInt = zheld H f p + (if f p = true then H p else 0)
      rw [if_pos c, i_add (by omega) (by omega), hs, x]
theorem hof_ok {dp : Nat} {h : Hp} (hh : HI h) (tI : Int32) (f : Nat → Bool) (ht : BSET tI f) (H : Nat → Int) (hH : ∀ x, x < 7 → f x = true → 0 ≤ H x ∧ H x ≤ 1000) (h34 : ∀ x, x < 7 → f x = true → (h.2.1 34 x).toInt = H x) (hQ : ∀ r : Int32, r.toInt = zheld H f 7 → Q (some (.int r)) h) : Ends X (dp + 1) 19 0 [.ref 17, .int tI, .retAddr 0, .retAddr 0] [] h Q :=
  w_hof0 tI hh.hs (hof_go hh tI f ht H hH h34 hQ 7 0 0 0 (by decide) rfl rfl)
end RUNS
end JN99tx8runs
section JN99tx9order
/-! Who goes when; the class's way. -/
theorem tws {f : Int32 → Bool} : ∀ {l : List Int32}, (∀ j, j < (l.takeWhile f).length → f (l.getD j 0) = true) ∧ ((l.takeWhile f).length = l.length ∨ f (l.getD (l.takeWhile f).length 0) = false) ∧ (l.takeWhile f).length ≤ l.length
  | [] => ⟨fun j hj => absurd hj (Nat.not_lt_zero j), Or.inl rfl, Nat.le_refl _⟩
  | x :: l => by
    obtain ⟨i1, i2, i3⟩ := tws (f := f) (l := l)
    cases c : f x with
    | true =>
      rw [List.takeWhile_cons_of_pos c]
      refine ⟨fun j hj => ?_, ?_, ?_⟩
      · match j with
        | 0 => exact c
        | j + 1 => exact i1 j (by rw [List.length_cons] at hj; omega)
      · rcases i2 with i2 | i2
        · exact Or.inl (by rw [List.length_cons, List.length_cons, i2])
        · exact Or.inr i2
      · rw [List.length_cons, List.length_cons]; omega
    | false =>
      rw [List.takeWhile_cons_of_neg (by rw [c]; exact Bool.false_ne_true)]
      exact ⟨fun j hj => absurd hj (Nat.not_lt_zero j), Or.inr c, Nat.zero_le _⟩
/-- one behind another, all of them -/
def PWR (r : Int32 → Int32 → Prop) (l : List Int32) : Prop := ∀ i j, i < j → j < l.length → r (l.getD i 0) (l.getD j 0)
theorem PWR.ins {r : Int32 → Int32 → Prop} {l : List Int32} {k : Nat} {p : Int32} (h : PWR r l) (hk : k ≤ l.length) (h1 : ∀ i, i < k → r (l.getD i 0) p) (h2 : ∀ j, k ≤ j → j < l.length → r p (l.getD j 0)) : PWR r (ins l k p) := by
  intro i j hij hj
  rw [ins_len hk] at hj
  rw [ins_get hk i, ins_get hk j]
  by_cases a : i < k
  · rw [if_pos a]
    by_cases b : j < k
    · rw [if_pos b]
      exact h i j hij (by omega)
    · rw [if_neg b]
      by_cases c : j = k
      · rw [if_pos c]
        exact h1 i a
      · rw [if_neg c]
        exact h i (j - 1) (by omega) (by omega)
  · rw [if_neg a]
    by_cases b : i = k
    · rw [if_pos b, if_neg (by omega), if_neg (by omega)]
      exact h2 (j - 1) (by omega) (by omega)
    · rw [if_neg b, if_neg (by omega), if_neg (by omega)]
      exact h (i - 1) (j - 1) (by omega) (by omega)
def zhst (S : Nat → Nat → Int) (p : Nat) : Int := if S 0 p = 3 ∨ S 0 p = 6 then S 3 p else S 3 p + 10
def zpos (H : Nat → Int) (l : List Int32) (p : Nat) : Nat := (l.takeWhile (fun a => decide (H p ≤ H a.toInt.toNat))).length
def zst (H : Nat → Int) (R : Nat → Bool) (fo : Int) (l : List Int32) (p : Nat) : List Int32 := if (R p && !decide ((p : Int) = fo)) = true then ins l (zpos H l p) (Int32.ofNat p) else l
/-- the row behind the first n of the people -/
def zlay (H : Nat → Int) (R : Nat → Bool) (fo : Int) : Nat → List Int32
  | 0 => []
  | n + 1 => zst H R fo (zlay H R fo n) n
def zidx (l : List Int32) (le : Int) : Nat := (l.takeWhile (fun a => !decide (a.toInt = le))).length
/-- the whole row -/
def zord (H : Nat → Int) (R : Nat → Bool) (fo le : Int) : List Int32 := if 0 ≤ fo then ins (zlay H R fo 7) (zidx (zlay H R fo 7) le + 1) (Int32.ofNat fo.toNat) else zlay H R fo 7
theorem zpos_le {H : Nat → Int} {l : List Int32} {p : Nat} : zpos H l p ≤ l.length := tws.2.2
theorem zlay_len (H : Nat → Int) (R : Nat → Bool) (fo : Int) : ∀ n, (zlay H R fo n).length + (if 0 ≤ fo ∧ fo < n then 1 else 0) ≤ n
  | 0 => by
    rw [if_neg (by omega)]
    exact Nat.le_refl _
  | n + 1 => by
    have i := zlay_len H R fo n
    show (zst H R fo (zlay H R fo n) n).length + _ ≤ _
    unfold zst
    by_cases c : (R n && !decide ((n : Int) = fo)) = true
    · have c2 := (Bool.and_eq_true _ _ ▸ c : R n = true ∧ (!decide ((n : Int) = fo)) = true).2
      have c3 : ¬ (n : Int) = fo := by
        intro z
        rw [decide_eq_true z] at c2
        cases c2
      rw [if_pos c, ins_len zpos_le]
      split at i
      · rw [if_pos (by omega)]; omega
      · rw [if_neg (by omega)]; omega
    · rw [if_neg c]
      split at i
      · rw [if_pos (by omega)]; omega
      · split <;> omega
theorem i32n {n : Nat} (h : n < 128) : (Int32.ofNat n).toInt = n := Int32.toInt_ofNat_of_lt (by omega)
theorem zmem (H : Nat → Int) (R : Nat → Bool) (fo : Int) : ∀ (n : Nat), n ≤ 7 → ∀ a, a ∈ zlay H R fo n ↔ ∃ i, i < n ∧ a = Int32.ofNat i ∧ R i = true ∧ ¬ (i : Int) = fo
  | 0, _, a => ⟨fun h => (by cases h), fun ⟨i, hi, _⟩ => absurd hi (Nat.not_lt_zero i)⟩
  | n + 1, h7, a => by
    have ih := zmem H R fo n (by omega) a
    show a ∈ zst H R fo (zlay H R fo n) n ↔ _
    unfold zst
    by_cases c : (R n && !decide ((n : Int) = fo)) = true
    · rw [if_pos c, mem_ins, ih]
      rw [Bool.and_eq_true] at c
      have c3 : ¬ (n : Int) = fo := by
        intro z
        rw [decide_eq_true z] at c
        exact absurd c.2 (by decide)
      constructor
      · rintro (⟨i, h1, h2⟩ | h)
        · exact ⟨i, by omega, h2⟩
        · exact ⟨n, by omega, h, c.1, c3⟩
      · rintro ⟨i, h1, h2, h3⟩
        by_cases d : i = n
        · exact Or.inr (by rw [h2, d])
        · exact Or.inl ⟨i, by omega, h2, h3⟩
    · rw [if_neg c, ih]
      constructor
      · rintro ⟨i, h1, h2⟩
        exact ⟨i, by omega, h2⟩
      · rintro ⟨i, h1, h2, h3, h4⟩
        by_cases d : i = n
        · subst d
          rw [h3, decide_eq_false h4] at c
          exact absurd rfl c
        · exact ⟨i, by omega, h2, h3, h4⟩
theorem gmem {l : List Int32} {j : Nat} (h : j < l.length) : l.getD j 0 ∈ l := by
  rw [List.getD_eq_getElem?_getD, List.getElem?_eq_getElem h]
  exact List.getElem_mem h
/-- in order, and nobody twice -/
theorem zlay_pw (H : Nat → Int) (R : Nat → Bool) (fo : Int) : ∀ n, n ≤ 7 → PWR (fun a b => H b.toInt.toNat ≤ H a.toInt.toNat ∧ a ≠ b) (zlay H R fo n)
  | 0, _ => fun i j _ hj => absurd hj (Nat.not_lt_zero j)
  | n + 1, h7 => by
    have ih := zlay_pw H R fo n (by omega)
    show PWR _ (zst H R fo (zlay H R fo n) n)
    unfold zst
    by_cases c : (R n && !decide ((n : Int) = fo)) = true
    · rw [if_pos c]
      obtain ⟨t1, t2, t3⟩ := tws (f := fun a => decide (H n ≤ H a.toInt.toNat)) (l := zlay H R fo n)
      have en := i32n (by omega : n < 128)
      have ne : ∀ j, j < (zlay H R fo n).length → (zlay H R fo n).getD j 0 ≠ Int32.ofNat n := by
        intro j hj q
        obtain ⟨i, h1, h2, _⟩ := (zmem H R fo n (by omega) _).mp (gmem hj)
        rw [q] at h2
        have := congrArg Int32.toInt h2
        rw [en, i32n (by omega)] at this
        omega
      refine PWR.ins ih zpos_le (fun i hi => ⟨?_, ne i (Nat.lt_of_lt_of_le hi zpos_le)⟩) (fun j hj hl => ⟨?_, fun q => ne j hl q.symm⟩)
      · rw [en]
        exact of_decide_eq_true (t1 i hi)
      · rw [en]
        rcases t2 with t2 | t2
        · exfalso
          have : zpos H (zlay H R fo n) n = (zlay H R fo n).length := t2
          omega
        · have t2 := of_decide_eq_false t2
          have t2 : ¬ H n ≤ H (((zlay H R fo n).getD (zpos H (zlay H R fo n) n) 0).toInt.toNat) := t2
          have e : Int.toNat (n : Int) = n := rfl
          rw [e]
          by_cases d : j = zpos H (zlay H R fo n) n
          · rw [d]; omega
          · have := (ih (zpos H (zlay H R fo n) n) j (by omega) hl).1
            omega
    · rw [if_neg c]
      exact ih
theorem iv_37 : ∀ k, k < 7 → ivl 37 k = (0, 6) := by
  have : ((List.range 7).all (fun k => decide (ivl 37 k = (0, 6)))) = true := by decide +kernel
  exact fun k hk => of_decide_eq_true (List.all_eq_true.mp this k (List.mem_range.mpr hk))
theorem HI_37 {h : Hp} {k : Nat} {x : Int32} (hh : HI h) (hk : k < 7) (h0 : 0 ≤ x.toInt) (h6 : x.toInt ≤ 6) : HI (hpI h 37 k x) := HI_put hh (by rw [iv_37 k hk]; exact h0) (by rw [iv_37 k hk]; exact h6)
def WOD : List (Nat × Nat) := [(37, 999)]
theorem WOD_X {h h' : Hp} (hf : frm WOD h h') : frm WCX h h' := frm_sub (V := WOD) (by decide) hf
theorem WOD_in {k : Nat} : inW WOD 37 k = true := by simp [inW, WOD]
/-- the class's row -/
def OLC (h : Hp) (l : List Int32) : Prop := ∀ j, j < l.length → h.2.1 37 j = l.getD j 0
section ORD
variable {X : Scr} {Q : Option Value → Hp → Prop}
theorem mn6_ok {dp : Nat} {h : Hp} (mI : Int32) (hm : mI.toInt ≤ 6) (hs : HS h) (hQ : Q (some (.int mI)) h) : Ends X dp 208 0 [.int mI, .int 6] [] h Q := by
  have j6 : (6 : Int32).toInt = 6 := rfl
  refine w_min mI 6 hs ?_
  refine ⟨fun e => ?_, fun e => hQ⟩
  exfalso
  have e : (6 : Int32).toInt < mI.toInt := of_decide_eq_true (cI e)
  omega
theorem hst_ok {dp : Nat} {h : Hp} {S : Nat → Nat → Int} {Y : Int} (hsr : SRG S) (hg : CG h S Y) (hh : HI h) (pI : Int32) (p : Nat) (hp : pI.toInt = p) (h7 : p < 7) (hQ : ∀ r : Int32, r.toInt = zhst S p → Q (some (.int r)) h) : Ends X dp 23 0 [.ref 17, .int pI, .retAddr 0] [] h Q := by
  have ip : inB pI 7 = true := inB_iff (by omega) (by omega)
  have en : pI.toNatClampNeg = p := by show pI.toInt.toNat = _; omega
  obtain ⟨g1, g2, g3, g4, g5⟩ := hg.1 p h7
  have sr := hsr p h7
  have j3 : (3 : Int32).toInt = 3 := rfl
  have j6 : (6 : Int32).toInt = 6 := rfl
  have j9 : (9 : Int32).toInt = 9 := rfl
  unfold zhst at hQ
  refine w_hst pI hh.hs ⟨ip, ?_⟩
  rw [en]
  refine ⟨fun c => ⟨ip, ?_⟩, fun c => ⟨ip, fun c2 => ⟨ip, ?_⟩, fun c2 => ⟨ip, ?_⟩⟩⟩
  · have c : (h.2.1 19 p).toInt = (3 : Int32).toInt := of_decide_eq_true (cI c)
    rw [if_pos (Or.inl (by omega))] at hQ
    exact hQ _ g4
  · have c : ¬ (h.2.1 19 p).toInt = (3 : Int32).toInt := of_decide_eq_false (cI c)
    have c2 : ¬ (h.2.1 19 p).toInt = (6 : Int32).toInt := of_decide_eq_true (cI c2)
    rw [if_neg (by omega)] at hQ
    have s1 : (h.2.1 22 p + 9).toInt = S 3 p + 9 := by rw [i_add (by omega) (by omega), g4, j9]
    refine hQ _ ?_
    rw [i_add (by rw [i1]; omega) (by rw [i1]; omega), s1, i1]
    omega
  · have c2 : ¬ ¬ (h.2.1 19 p).toInt = (6 : Int32).toInt := of_decide_eq_false (cI c2)
    rw [if_pos (Or.inr (by omega))] at hQ
    exact hQ _ g4
/-- the places from a on stand one further behind -/
def SHF (h : Hp) (l : List Int32) (a : Nat) : Prop := (∀ j, j < a → h.2.1 37 j = l.getD j 0) ∧ ∀ j, a < j → j ≤ l.length → h.2.1 37 j = l.getD (j - 1) 0
theorem SHF.end {h : Hp} {l : List Int32} {a : Nat} {p : Int32} (hs : SHF h l a) (ha : a ≤ l.length) : OLC (hpI h 37 a p) (ins l a p) := by
  intro j hj
  rw [ins_len ha] at hj
  rw [ins_get ha, put_if]
  by_cases c : j = a
  · rw [if_pos c, if_neg (by omega), if_pos c]
  · rw [if_neg c]
    by_cases d : j < a
    · rw [if_pos d]
      exact hs.1 j d
    · rw [if_neg d, if_neg c]
      exact hs.2 j (by omega) (by omega)
theorem SHF.on {h : Hp} {l : List Int32} {a : Nat} (hs : SHF h l (a + 1)) : SHF (hpI h 37 (a + 1) (h.2.1 37 a)) l a := by
  refine ⟨fun j hj => ?_, fun j h1 h2 => ?_⟩
  · rw [put_ne (by omega)]
    exact hs.1 j (by omega)
  · rw [put_if]
    by_cases c : j = a + 1
    · rw [if_pos c, c]
      exact hs.1 a (by omega)
    · rw [if_neg c]
      exact hs.2 j (by omega) h2
theorem stp_go {dp : Nat} {S : Nat → Nat → Int} {Y : Int} (hsr : SRG S) (pI mI : Int32) (p : Nat) (hp : pI.toInt = p) (h7 : p < 7) (l : List Int32) (hl : l.length ≤ 6) (hel : ∀ j, j < l.length → 0 ≤ (l.getD j 0).toInt ∧ (l.getD j 0).toInt ≤ 6) (hpw : PWR (fun a b => zhst S b.toInt.toNat ≤ zhst S a.toInt.toNat ∧ a ≠ b) l) : ∀ (k a : Nat) (aI : Int32) (h : Hp), a = zpos (zhst S) l p + k → aI.toInt = a → a ≤ l.length → HI h → CG h S Y → SHF h l a → (∀ h', HI h' → frm WOD h h' → OLC h' (ins l (zpos (zhst S) l p) pI) → Q (some (.int (mI + 1))) h') → Ends X (dp + 1) 21 7 [.ref 17, .int pI, .int mI, .int aI] [] h Q
  | k, a, aI, h, hk, ha, hal, hh, hg, hsh, hQ => by
    obtain ⟨t1, t2, t3⟩ := tws (f := fun x => decide (zhst S p ≤ zhst S x.toInt.toNat)) (l := l)
    have ia : inB aI 7 = true := inB_iff (by omega) (by omega)
    have ea : aI.toNatClampNeg = a := by show aI.toInt.toNat = _; omega
    have z0' : (0 : Int32).toInt = 0 := rfl
    refine w_stp1 pI mI aI hh.hs ⟨fun e => ⟨ia, ?_⟩, fun e => ?_⟩
    · have e : aI.toInt ≤ (0 : Int32).toInt := of_decide_eq_true (cI e)
      rw [ea]
      have : a = zpos (zhst S) l p := by omega
      refine hQ _ (HI_37 hh (by omega) (by omega) (by omega)) (frm_put frm_refl WOD_in) ?_
      rw [← this]
      exact hsh.end hal
    have e : ¬ aI.toInt ≤ (0 : Int32).toInt := of_decide_eq_false (cI e)
    obtain ⟨b, rfl⟩ : ∃ b, a = b + 1 := ⟨a - 1, by omega⟩
    have d1 : (aI - 1).toInt = b := by rw [i_sub (by rw [i1]; omega) (by rw [i1]; omega), i1]; omega
    have ib : inB (aI - 1) 7 = true := inB_iff (by omega) (by omega)
    have eb : (aI - 1).toNatClampNeg = b := by show (aI - 1).toInt.toNat = _; omega
    have cb := hsh.1 b (Nat.lt_succ_self b)
    have rb := hel b (by omega)
    have b7 : b + 1 < 7 := by omega
    refine ⟨ib, ?_⟩
    rw [ea, eb, cb]
    obtain ⟨x, hx⟩ : ∃ x : Nat, (l.getD b 0).toInt = x := ⟨(l.getD b 0).toInt.toNat, by omega⟩
    have ex : (l.getD b 0).toInt.toNat = x := by omega
    refine hst_ok hsr hg hh _ x hx (by omega) (fun r5 h5 => ⟨r5, rfl, hh.hs, hst_ok hsr hg hh pI p hp h7 (fun r8 h8 => ⟨r8, rfl, hh.hs, fun c => ⟨ia, ?_⟩, fun c => ⟨ib, ia, ?_⟩⟩)⟩)
    · have c : r8.toInt ≤ r5.toInt := of_decide_eq_true (cI c)
      have : b + 1 = zpos (zhst S) l p := by
        apply Decidable.byContradiction
        intro q
        have q2 : zpos (zhst S) l p ≤ b := by omega
        rcases t2 with t2 | t2
        · have : zpos (zhst S) l p = l.length := t2
          omega
        · have t2 : ¬ zhst S p ≤ zhst S ((l.getD (zpos (zhst S) l p) 0).toInt.toNat) := of_decide_eq_false t2
          by_cases d : zpos (zhst S) l p = b
          · rw [d, ex] at t2
            omega
          · have := (hpw (zpos (zhst S) l p) b (by omega) (by omega)).1
            rw [ex] at this
            omega
      refine hQ _ (HI_37 hh (by omega) (by omega) (by omega)) (frm_put frm_refl WOD_in) ?_
      rw [← this]
      exact hsh.end hal
    · have c : ¬ r8.toInt ≤ r5.toInt := of_decide_eq_false (cI c)
      have hkb : zpos (zhst S) l p ≤ b := by
        apply Decidable.byContradiction
        intro q
        have := of_decide_eq_true (t1 b (by show b < zpos (zhst S) l p; omega))
        rw [ex] at this
        omega
      have f1 : frm WOD h (hpI h 37 (b + 1) (h.2.1 37 b)) := frm_put frm_refl WOD_in
      have am : (aI + (-1)).toInt = b := by rw [i_add (by rw [im1]; omega) (by rw [im1]; omega), im1]; omega
      have g37 : HI (hpI h 37 (b + 1) (h.2.1 37 b)) := HI_37 hh b7 (by rw [cb]; exact rb.1) (by rw [cb]; exact rb.2)
      match k, hk with
      | 0, hk => omega
      | k + 1, hk => exact stp_go hsr pI mI p hp h7 l hl hel hpw k b (aI + (-1)) _ (Nat.succ.inj hk) am (Nat.le_of_succ_le hal) g37 (hg.fr (WOD_X f1)) hsh.on (fun h' g1 g2 g3 => hQ h' g1 (frm_trans f1 g2) g3)
end ORD
end JN99tx9order
section JN99txaline
/-! All who run, one behind the other; the class's way. -/
section LINE
variable {X : Scr} {Q : Option Value → Hp → Prop}
theorem stp_ok {dp : Nat} {S : Nat → Nat → Int} {Y : Int} (hsr : SRG S) (pI mI : Int32) (p : Nat) (hp : pI.toInt = p) (h7 : p < 7) (l : List Int32) (hl : l.length ≤ 6) (hel : ∀ j, j < l.length → 0 ≤ (l.getD j 0).toInt ∧ (l.getD j 0).toInt ≤ 6) (hpw : PWR (fun a b => zhst S b.toInt.toNat ≤ zhst S a.toInt.toNat ∧ a ≠ b) l) {h : Hp} (hm : mI.toInt = l.length) (hh : HI h) (hg : CG h S Y) (ho : OLC h l) (hQ : ∀ h', HI h' → frm WOD h h' → OLC h' (ins l (zpos (zhst S) l p) pI) → Q (some (.int (mI + 1))) h') : Ends X (dp + 1) 21 0 [.ref 17, .int pI, .int mI, .retAddr 0] [] h Q := by
  have zl := zpos_le (H := zhst S) (l := l) (p := p)
  exact w_stp0 pI mI hh.hs (mn6_ok mI (by omega) hh.hs ⟨_, rfl, hh.hs, stp_go hsr pI mI p hp h7 l hl hel hpw (l.length - zpos (zhst S) l p) l.length mI h (by omega) hm (Nat.le_refl _) hh hg ⟨fun j hj => ho j hj, fun j h1 h2 => by omega⟩ hQ⟩)
theorem fol_go {dp : Nat} (mI fI lI : Int32) (le : Int) (hle : lI.toInt = le) (hf0 : 0 ≤ fI.toInt) (hf6 : fI.toInt ≤ 6) (l : List Int32) (hl : l.length ≤ 6) (hel : ∀ j, j < l.length → 0 ≤ (l.getD j 0).toInt ∧ (l.getD j 0).toInt ≤ 6) (hds : ∀ i j, i < j → j < l.length → l.getD i 0 ≠ l.getD j 0) (hin : zidx l le < l.length) : ∀ (k a : Nat) (aI : Int32) (h : Hp), a = zidx l le + 1 + k → aI.toInt = a → a ≤ l.length → HI h → h.2.1 17 15 = fI → h.2.1 17 16 = lI → SHF h l a → (∀ h', HI h' → frm WOD h h' → OLC h' (ins l (zidx l le + 1) fI) → Q (some (.int (mI + 1))) h') → Ends X dp 22 7 [.ref 17, .int mI, .int aI] [] h Q
  | k, a, aI, h, hk, ha, hal, hh, h15, h16, hsh, hQ => by
    obtain ⟨t1, t2, t3⟩ := tws (f := fun x => !decide (x.toInt = le)) (l := l)
    have ia : inB aI 7 = true := inB_iff (by omega) (by omega)
    have ea : aI.toNatClampNeg = a := by show aI.toInt.toNat = _; omega
    have z0' : (0 : Int32).toInt = 0 := rfl
    refine w_fol1 mI aI hh.hs ⟨fun e => ?_, fun e => ?_⟩
    · exfalso
      have e : aI.toInt ≤ (0 : Int32).toInt := of_decide_eq_true (cI e)
      omega
    obtain ⟨b, rfl⟩ : ∃ b, a = b + 1 := ⟨a - 1, by omega⟩
    have d1 : (aI - 1).toInt = b := by rw [i_sub (by rw [i1]; omega) (by rw [i1]; omega), i1]; omega
    have ib : inB (aI - 1) 7 = true := inB_iff (by omega) (by omega)
    have eb : (aI - 1).toNatClampNeg = b := by show (aI - 1).toInt.toNat = _; omega
    have cb := hsh.1 b (Nat.lt_succ_self b)
    have rb := hel b (by omega)
    have b7 : b + 1 < 7 := by omega
    have ti : (l.getD (zidx l le) 0).toInt = le := by
      rcases t2 with t2 | t2
      · have : zidx l le = l.length := t2
        omega
      · have t2 : (!decide ((l.getD (zidx l le) 0).toInt = le)) = false := t2
        rw [Bool.not_eq_false'] at t2
        exact of_decide_eq_true t2
    refine ⟨ib, ?_⟩
    rw [ea, eb, h15, h16]
    refine ⟨fun c => ⟨ia, ?_⟩, fun c => ⟨ib, ia, ?_⟩⟩
    · have c : (h.2.1 37 b).toInt = lI.toInt := of_decide_eq_true (cI c)
      rw [cb] at c
      have bz : b = zidx l le := by
        apply Decidable.byContradiction
        intro q
        have q2 : zidx l le < b := by omega
        exact hds _ _ q2 (by omega) (Int32.toInt.inj (by rw [ti, c, hle]))
      refine hQ _ (HI_37 hh b7 hf0 hf6) (frm_put frm_refl WOD_in) ?_
      rw [← bz]
      exact hsh.end hal
    · have c : ¬ (h.2.1 37 b).toInt = lI.toInt := of_decide_eq_false (cI c)
      rw [cb] at c
      have hkb : zidx l le + 1 ≤ b := by
        apply Decidable.byContradiction
        intro q
        have : b = zidx l le := by omega
        rw [this, ti, hle] at c
        exact c rfl
      have f1 : frm WOD h (hpI h 37 (b + 1) (h.2.1 37 b)) := frm_put frm_refl WOD_in
      have am : (aI + (-1)).toInt = b := by rw [i_add (by rw [im1]; omega) (by rw [im1]; omega), im1]; omega
      have g37 : HI (hpI h 37 (b + 1) (h.2.1 37 b)) := HI_37 hh b7 (by rw [cb]; exact rb.1) (by rw [cb]; exact rb.2)
      have n1 : (hpI h 37 (b + 1) (h.2.1 37 b)).2.1 17 15 = fI := by rw [put_ne (by omega)]; exact h15
      have n2 : (hpI h 37 (b + 1) (h.2.1 37 b)).2.1 17 16 = lI := by rw [put_ne (by omega)]; exact h16
      match k, hk with
      | 0, hk => omega
      | k + 1, hk => exact fol_go mI fI lI le hle hf0 hf6 l hl hel hds hin k b (aI + (-1)) _ (Nat.succ.inj hk) am (Nat.le_of_succ_le hal) g37 n1 n2 hsh.on (fun h' g1 g2 g3 => hQ h' g1 (frm_trans f1 g2) g3)
theorem fol_ok {dp : Nat} (mI : Int32) (fo le : Int) (l : List Int32) (hl : l.length ≤ 6) (hel : ∀ j, j < l.length → 0 ≤ (l.getD j 0).toInt ∧ (l.getD j 0).toInt ≤ 6) (hds : ∀ i j, i < j → j < l.length → l.getD i 0 ≠ l.getD j 0) (hin : zidx l le < l.length) (h0 : 0 ≤ fo) (h6 : fo ≤ 6) {h : Hp} (hm : mI.toInt = l.length) (hh : HI h) (h15 : (h.2.1 17 15).toInt = fo) (h16 : (h.2.1 17 16).toInt = le) (ho : OLC h l) (hQ : ∀ h', HI h' → frm WOD h h' → OLC h' (ins l (zidx l le + 1) (Int32.ofNat fo.toNat)) → Q (some (.int (mI + 1))) h') : Ends X (dp + 1) 22 0 [.ref 17, .int mI, .retAddr 0] [] h Q := by
  have ef : Int32.ofNat fo.toNat = h.2.1 17 15 := ofn (by omega)
  rw [ef] at hQ
  exact w_fol0 mI hh.hs (mn6_ok mI (by omega) hh.hs ⟨_, rfl, hh.hs, fol_go mI _ _ le h16 (by omega) (by omega) l hl hel hds hin (l.length - (zidx l le + 1)) l.length mI h (by omega) hm (Nat.le_refl _) hh rfl rfl ⟨fun j hj => ho j hj, fun j h1 h2 => by omega⟩ hQ⟩)
theorem zlay_el {H : Nat → Int} {R : Nat → Bool} {fo : Int} {n : Nat} (h7 : n ≤ 7) : ∀ j, j < (zlay H R fo n).length → ∃ x : Nat, x < n ∧ ((zlay H R fo n).getD j 0).toInt = x ∧ R x = true ∧ ¬ (x : Int) = fo := by
  intro j hj
  obtain ⟨i, h1, h2, h3, h4⟩ := (zmem H R fo n h7 _).mp (gmem hj)
  exact ⟨i, h1, by rw [h2, i32n (by omega)], h3, h4⟩
theorem zidx_lt {H : Nat → Int} {R : Nat → Bool} {fo le : Int} {n : Nat} (h7 : n ≤ 7) (h0 : 0 ≤ le) (hn : le < n) (hr : R le.toNat = true) (hne : fo ≠ le) : zidx (zlay H R fo n) le < (zlay H R fo n).length := by
  obtain ⟨t1, t2, t3⟩ := tws (f := fun x => !decide (x.toInt = le)) (l := zlay H R fo n)
  have t3 : zidx (zlay H R fo n) le ≤ (zlay H R fo n).length := t3
  rcases Nat.lt_or_ge (zidx (zlay H R fo n) le) (zlay H R fo n).length with c | c
  · exact c
  exfalso
  have m := (zmem H R fo n h7 (Int32.ofNat le.toNat)).mpr ⟨le.toNat, by omega, rfl, hr, by omega⟩
  obtain ⟨j, hj, e⟩ := List.getElem_of_mem m
  have := t1 j (by show j < zidx (zlay H R fo n) le; omega)
  rw [List.getD_eq_getElem?_getD, List.getElem?_eq_getElem hj] at this
  have e2 : (Int32.ofNat le.toNat).toInt = le := by rw [i32n (by omega)]; omega
  simp only [Option.getD_some, e, e2, decide_true, Bool.not_true] at this
  cases this
theorem lin_go {dp : Nat} {S : Nat → Nat → Int} {Y : Int} (hsr : SRG S) (R : Nat → Bool) (fo le : Int) (N : Nat) (hN7 : N ≤ 7) (hfo : FOK fo le N R) : ∀ (n p : Nat) (pI mI : Int32) (h : Hp), p + n = 7 → pI.toInt = p → mI.toInt = (zlay (zhst S) R fo p).length → HI h → CG h S Y → BSET (h.2.1 17 11) R → (h.2.1 17 15).toInt = fo → (0 ≤ fo → (h.2.1 17 16).toInt = le) → OLC h (zlay (zhst S) R fo p) → (∀ (r : Int32) h', HI h' → frm WOD h h' → r.toInt = (zord (zhst S) R fo le).length → OLC h' (zord (zhst S) R fo le) → Q (some (.int r)) h') → Ends X (dp + 1 + 1) 20 4 [.ref 17, .int mI, .int pI] [] h Q
  | n, p, pI, mI, h, hn, hp, hm, hh, hg, hR, h15, h16, ho, hQ => by
    have j7 : (7 : Int32).toInt = 7 := rfl
    have z0' : (0 : Int32).toInt = 0 := rfl
    have zl := zlay_len (zhst S) R fo p
    have hel : ∀ j, j < (zlay (zhst S) R fo p).length → 0 ≤ ((zlay (zhst S) R fo p).getD j 0).toInt ∧ ((zlay (zhst S) R fo p).getD j 0).toInt ≤ 6 := fun j hj => by
      obtain ⟨x, x1, x2, -⟩ := zlay_el (by omega) j hj
      omega
    have pw := zlay_pw (zhst S) R fo p (by omega)
    refine w_lin1 mI pI hh.hs ⟨fun e => ⟨fun e2 => ?_, fun e2 => ?_⟩, fun e => ?_⟩
    · have e : (7 : Int32).toInt ≤ pI.toInt := of_decide_eq_true (cI e)
      have e2 : (0 : Int32).toInt ≤ (h.2.1 17 15).toInt := of_decide_eq_true (cI e2)
      have p7 : p = 7 := by omega
      subst p7
      have f := hfo.resolve_left (by omega)
      have l6 : (zlay (zhst S) R fo 7).length ≤ 6 := by
        rw [if_pos (by omega)] at zl
        omega
      have hin := zidx_lt (H := zhst S) (fo := fo) (n := 7) (by decide) f.2.2.1 (by omega) f.2.2.2.2.2.2 f.2.2.2.2.1
      have zo : zord (zhst S) R fo le = ins (zlay (zhst S) R fo 7) (zidx (zlay (zhst S) R fo 7) le + 1) (Int32.ofNat fo.toNat) := if_pos f.1
      rw [zo, ins_len (by omega)] at hQ
      exact fol_ok mI fo le _ l6 hel (fun i j a b => (pw i j a b).2) hin f.1 (by omega) hm hh h15 (h16 f.1) ho (fun h' g1 g2 g3 => ⟨_, rfl, g1.hs, hQ _ h' g1 g2 (by rw [i_add (by rw [i1]; omega) (by rw [i1]; omega), i1]; omega) g3⟩)
    · have e : (7 : Int32).toInt ≤ pI.toInt := of_decide_eq_true (cI e)
      have e2 : ¬ (0 : Int32).toInt ≤ (h.2.1 17 15).toInt := of_decide_eq_false (cI e2)
      have p7 : p = 7 := by omega
      subst p7
      have zo : zord (zhst S) R fo le = zlay (zhst S) R fo 7 := if_neg (by omega)
      rw [zo] at hQ
      exact hQ mI h hh frm_refl hm ho
    have e : ¬ (7 : Int32).toInt ≤ pI.toInt := of_decide_eq_false (cI e)
    have h7 : p < 7 := by omega
    have n1 : (pI + 1).toInt = ((p + 1 : Nat) : Int) := by rw [i_add (by rw [i1]; omega) (by rw [i1]; omega), i1]; omega
    obtain ⟨n, rfl⟩ : ∃ k, n = k + 1 := ⟨n - 1, by omega⟩
    have keep : (R p && !decide ((p : Int) = fo)) = false → Ends X (dp + 1 + 1) 20 4 [.ref 17, .int mI, .int (pI + 1)] [] h Q := by
      intro c
      have st : zlay (zhst S) R fo (p + 1) = zlay (zhst S) R fo p := if_neg (by rw [c]; exact Bool.false_ne_true)
      exact lin_go hsr R fo le N hN7 hfo n (p + 1) (pI + 1) mI h (by omega) n1 (by rw [st]; exact hm) hh hg hR h15 h16 (by rw [st]; exact ho) hQ
    refine isin_ok hR hp h7 hh.hs ⟨_, rfl, hh.hs, fun c => ?_, fun c => ⟨fun c2 => ?_, fun c2 => ?_⟩⟩
    · exact keep (by rw [cz c]; rfl)
    · have c2 : pI.toInt = (h.2.1 17 15).toInt := of_decide_eq_true (cI c2)
      exact keep (by rw [decide_eq_true (by omega : (p : Int) = fo), Bool.not_true, Bool.and_false])
    · have c := cn c
      have c2 : ¬ pI.toInt = (h.2.1 17 15).toInt := of_decide_eq_false (cI c2)
      have st : zlay (zhst S) R fo (p + 1) = ins (zlay (zhst S) R fo p) (zpos (zhst S) (zlay (zhst S) R fo p) p) (Int32.ofNat p) := if_pos (by rw [c, decide_eq_false (by omega : ¬ (p : Int) = fo)]; rfl)
      have l6 : (zlay (zhst S) R fo p).length ≤ 6 := by omega
      refine stp_ok hsr pI mI p hp h7 _ l6 hel pw hm hh hg ho (fun h' g1 g2 g3 => ⟨_, rfl, g1.hs, ?_⟩)
      rw [ofn hp] at st
      refine lin_go hsr R fo le N hN7 hfo n (p + 1) (pI + 1) (mI + 1) h' (by omega) n1 ?_ g1 (hg.fr (WOD_X g2)) (by rw [frI g2 (a := 17) rfl]; exact hR) (by rw [frI g2 (a := 17) rfl]; exact h15) (fun z => by rw [frI g2 (a := 17) rfl]; exact h16 z) (by rw [st]; exact g3) (fun r h'' d1 d2 d3 d4 => hQ r h'' d1 (frm_trans g2 d2) d3 d4)
      rw [st, ins_len zpos_le, i_add (by rw [i1]; omega) (by rw [i1]; omega), i1]
      omega
theorem lin_ok {dp : Nat} {S : Nat → Nat → Int} {Y : Int} (hsr : SRG S) (R : Nat → Bool) (fo le : Int) (N : Nat) (hN7 : N ≤ 7) (hfo : FOK fo le N R) {h : Hp} (hh : HI h) (hg : CG h S Y) (hR : BSET (h.2.1 17 11) R) (h15 : (h.2.1 17 15).toInt = fo) (h16 : 0 ≤ fo → (h.2.1 17 16).toInt = le) (hQ : ∀ (r : Int32) h', HI h' → frm WOD h h' → r.toInt = (zord (zhst S) R fo le).length → OLC h' (zord (zhst S) R fo le) → Q (some (.int r)) h') : Ends X (dp + 1 + 1) 20 0 [.ref 17, .retAddr 0, .retAddr 0] [] h Q :=
  w_lin0 hh.hs (lin_go hsr R fo le N hN7 hfo 7 0 0 0 h (by decide) rfl rfl hh hg hR h15 h16 (fun j hj => absurd hj (Nat.not_lt_zero j)) hQ)
end LINE
end JN99txaline
section JN99txbcross
/-! A shout, as it is told, and the class's way. -/
/-- those who meet one in the way w -/
def zmeet (Z : Nat → Nat → Bool) (b : Nat → Bool) (w : Int) : Nat → Bool := fun x => Z w.toNat x && !b x
/-- who is caught, the row gone through -/
def zgo (Z : Nat → Nat → Bool) (H W SL : Nat → Int) : List Int32 → (Nat → Bool) → (Nat → Bool) → Nat → Bool
  | [], _, c => c
  | a :: l, b, c => if SL a.toInt.toNat < zheld H (zmeet Z b (W a.toInt.toNat)) 7 then zgo Z H W SL l (fun x => b x || zmeet Z b (W a.toInt.toNat) x) (fun x => c x || decide (x = a.toInt.toNat)) else zgo Z H W SL l b c
def zW (S : Nat → Nat → Int) (Y : Int) (cs : List Cl) (m : List Int) (K R : Nat → Bool) (hd : Bool) (one tol fo le : Int) : Nat → Int := zcw (zsnt (zway S Y R (fun l => pop (zin S Y cs m K hd l))) one tol) fo le
def zcau (S : Nat → Nat → Int) (Y : Int) (cs : List Cl) (m : List Int) (K R : Nat → Bool) (hd : Bool) (one tol fo le : Int) : Nat → Bool := zgo (zin S Y cs m K hd) (zhold S Y cs m) (zW S Y cs m K R hd one tol fo le) (zslip S Y cs m (zW S Y cs m K R hd one tol fo le)) (zord (zhst S) R fo le) (fun _ => false) (fun _ => false)
theorem zhold_b {S : Nat → Nat → Int} {Y : Int} {cs : List Cl} {m : List Int} (hsr : SRG S) (hw : YOK cs m) {x : Nat} (h7 : x < 7) : 0 ≤ zhold S Y cs m x ∧ zhold S Y cs m x ≤ 1000 := by
  have b := hw.b (zfc S Y x (S 2 x)) 1
  have s := (hsr x h7).2.2.2.2
  unfold zhold
  omega
theorem zW_b {S : Nat → Nat → Int} {Y : Int} {cs : List Cl} {m : List Int} {K R : Nat → Bool} {hd : Bool} {one tol fo le : Int} {N : Nat} (hsr : SRG S) (h5 : SR5 S) (hN7 : N ≤ 7) (hfo : FOK fo le N R) (ht : 0 ≤ tol ∧ tol ≤ 6) {x : Nat} (h7 : x < 7) : 0 ≤ zW S Y cs m K R hd one tol fo le x ∧ zW S Y cs m K R hd one tol fo le x ≤ 6 := by
  have sn : ∀ y, y < 7 → 0 ≤ zsnt (zway S Y R (fun l => pop (zin S Y cs m K hd l))) one tol y ∧ zsnt (zway S Y R (fun l => pop (zin S Y cs m K hd l))) one tol y ≤ 6 := fun y hy => by
    unfold zsnt
    split
    · exact ht
    · exact zway_b hsr h5 (fun l => pop_le _) hy
  unfold zW zcw
  split
  · rename_i c
    refine sn _ ?_
    rcases hfo with f | f
    · omega
    · omega
  · exact sn x h7
theorem zord_el {H : Nat → Int} {R : Nat → Bool} {fo le : Int} {N : Nat} (hN7 : N ≤ 7) (hfo : FOK fo le N R) : ∀ j, j < (zord H R fo le).length → ∃ x : Nat, x < 7 ∧ ((zord H R fo le).getD j 0).toInt = x ∧ R x = true := by
  intro j hj
  unfold zord at hj ⊢
  by_cases c : 0 ≤ fo
  · rw [if_pos c] at hj ⊢
    have f := hfo.resolve_left (by omega)
    have hin := zidx_lt (H := H) (fo := fo) (n := 7) (by decide) f.2.2.1 (by omega) f.2.2.2.2.2.2 f.2.2.2.2.1
    have hk : zidx (zlay H R fo 7) le + 1 ≤ (zlay H R fo 7).length := by omega
    rw [ins_len hk] at hj
    rw [ins_get hk]
    split
    · obtain ⟨x, x1, x2, x3, -⟩ := zlay_el (H := H) (R := R) (fo := fo) (n := 7) (by decide) j (by omega)
      exact ⟨x, x1, x2, x3⟩
    · split
      · exact ⟨fo.toNat, by omega, by rw [i32n (by omega)], f.2.2.2.2.2.1⟩
      · obtain ⟨x, x1, x2, x3, -⟩ := zlay_el (H := H) (R := R) (fo := fo) (n := 7) (by decide) (j - 1) (by omega)
        exact ⟨x, x1, x2, x3⟩
  · rw [if_neg c] at hj ⊢
    obtain ⟨x, x1, x2, x3, -⟩ := zlay_el (H := H) (R := R) (fo := fo) (n := 7) (by decide) j hj
    exact ⟨x, x1, x2, x3⟩
theorem zord_len {H : Nat → Int} {R : Nat → Bool} {fo le : Int} {N : Nat} (hN7 : N ≤ 7) (hfo : FOK fo le N R) : (zord H R fo le).length ≤ 7 := by
  have zl := zlay_len H R fo 7
  unfold zord
  by_cases c : 0 ≤ fo
  · rw [if_pos c]
    have f := hfo.resolve_left (by omega)
    have hin := zidx_lt (H := H) (fo := fo) (n := 7) (by decide) f.2.2.1 (by omega) f.2.2.2.2.2.2 f.2.2.2.2.1
    rw [ins_len (by omega)]
    rw [if_pos (by omega)] at zl
    omega
  · rw [if_neg c]
    split at zl <;> omega
theorem dropI {l : List Int32} {c : Nat} (h : c < l.length) : l.drop c = l.getD c 0 :: l.drop (c + 1) := by
  rw [List.drop_eq_getElem_cons h, List.getD_eq_getElem?_getD, List.getElem?_eq_getElem h]
  rfl
section CROSS
variable {X : Scr} {Q : Option Value → Hp → Prop}
theorem rof_ok {dp : Nat} {h : Hp} (hs : HS h) (lI : Int32) (l : Nat) (hl : lI.toInt = l) (h7 : l < 7) (hQ : Q (some (.int (h.2.1 32 l))) h) : Ends X (dp + 1) 18 0 [.ref 17, .int lI] [] h Q := by
  have en : lI.toNatClampNeg = l := by show lI.toInt.toNat = _; omega
  refine w_rof lI hs (isLane_ok lI hs ⟨_, rfl, hs, fun e => ?_, fun e => ⟨inB_iff (by omega) (by omega), ?_⟩⟩)
  · exfalso
    have e := cz e
    unfold inR at e
    rw [decide_eq_true (by omega : 0 ≤ lI.toInt), decide_eq_true (by omega : lI.toInt ≤ 6)] at e
    cases e
  · rw [en]
    exact hQ
theorem cau_go {dp : Nat} {h : Hp} (hh : HI h) (Z : Nat → Nat → Bool) (H W SL : Nat → Int) (R : Nat → Bool) (l : List Int32) (hl : l.length ≤ 7) (ho : OLC h l) (hel : ∀ j, j < l.length → ∃ x : Nat, x < 7 ∧ (l.getD j 0).toInt = x ∧ R x = true) (hZ : ∀ j, j < 7 → BSET (h.2.1 32 j) (Z j)) (hW : ∀ x, x < 7 → R x = true → (h.2.1 35 x).toInt = W x ∧ 0 ≤ W x ∧ W x ≤ 6) (hS : ∀ x, x < 7 → R x = true → (h.2.1 36 x).toInt = SL x) (hH : ∀ x, x < 7 → ∀ j, j < 7 → Z j x = true → (h.2.1 34 x).toInt = H x ∧ 0 ≤ H x ∧ H x ≤ 1000) (rI : Int32) (hr : rI.toInt = l.length) : ∀ (n i : Nat) (iI bI cI : Int32) (b c : Nat → Bool) (x y : Value), i + n = l.length → iI.toInt = i → BSET bI b → BSET cI c → (∀ r : Int32, BSET r (zgo Z H W SL (l.drop i) b c) → Q (some (.int r)) h) → Ends X (dp + 1 + 1) 10 60 [.ref 17, .int rI, .int bI, .int cI, .int iI, x, y] [] h Q
  | n, i, iI, bI, cI, b, c, x, y, hn, hi, hb, hc, hQ => by
    have j7 : (7 : Int32).toInt = 7 := rfl
    refine w_cau1 rI bI cI iI x y hh.hs ⟨fun e => ?_, fun e => ⟨fun e2 => ?_, fun e2 => ?_⟩⟩
    · have e : rI.toInt ≤ iI.toInt := of_decide_eq_true (cJ e)
      rw [List.drop_eq_nil_of_le (by omega)] at hQ
      exact hQ cI hc
    · exfalso
      have e : ¬ rI.toInt ≤ iI.toInt := of_decide_eq_false (cJ e)
      have e2 : (7 : Int32).toInt ≤ iI.toInt := of_decide_eq_true (cJ e2)
      omega
    have e : ¬ rI.toInt ≤ iI.toInt := of_decide_eq_false (cJ e)
    have hil : i < l.length := by omega
    have en : iI.toNatClampNeg = i := by show iI.toInt.toNat = _; omega
    obtain ⟨p, p7, pe, pr⟩ := hel i hil
    have oi := ho i hil
    obtain ⟨n, rfl⟩ : ∃ k, n = k + 1 := ⟨n - 1, by omega⟩
    have n1 : (iI + 1).toInt = ((i + 1 : Nat) : Int) := by rw [i_add (by rw [i1]; omega) (by rw [i1]; omega), i1]; omega
    rw [dropI hil] at hQ
    unfold zgo at hQ
    have pt : (l.getD i 0).toInt.toNat = p := by omega
    rw [pt] at hQ
    have pn : (l.getD i 0).toNatClampNeg = p := pt
    obtain ⟨w1, w2, w3⟩ := hW p p7 pr
    refine ⟨inB_iff (by omega) (by omega), ?_⟩
    rw [en, oi]
    refine ⟨inB_iff (by omega) (by omega), ?_⟩
    rw [pn]
    refine rof_ok hh.hs _ (W p).toNat (by omega) (by omega) ⟨_, rfl, hh.hs, ?_⟩
    have hm : BSET (h.2.1 32 (W p).toNat &&& (bI ^^^ (-1))) (zmeet Z b (W p)) := (hZ _ (by omega)).no hb
    have hz : ∀ x, x < 7 → zmeet Z b (W p) x = true → (h.2.1 34 x).toInt = H x ∧ 0 ≤ H x ∧ H x ≤ 1000 := fun x hx q => hH x hx (W p).toNat (by omega) (by
      unfold zmeet at q
      rw [Bool.and_eq_true] at q
      exact q.1)
    refine hof_ok hh _ _ hm H (fun x hx q => (hz x hx q).2) (fun x hx q => (hz x hx q).1) (fun r9 h9 => ⟨r9, rfl, hh.hs, inB_iff (by omega) (by omega), fun c1 => ?_, fun c1 => ?_⟩)
    · have c1 : r9.toInt ≤ (h.2.1 36 p).toInt := of_decide_eq_true (cJ c1)
      rw [hS p p7 pr, h9] at c1
      rw [if_neg (by omega)] at hQ
      exact cau_go hh Z H W SL R l hl ho hel hZ hW hS hH rI hr n (i + 1) (iI + 1) bI cI b c _ _ (by omega) n1 hb hc hQ
    · have c1 : ¬ r9.toInt ≤ (h.2.1 36 p).toInt := of_decide_eq_false (cJ c1)
      rw [hS p p7 pr, h9] at c1
      rw [if_pos (by omega)] at hQ
      exact cau_go hh Z H W SL R l hl ho hel hZ hW hS hH rI hr n (i + 1) (iI + 1) _ _ _ _ _ _ (by omega) n1 (hb.or hm) (hc.or (BSET.one pe p7)) hQ
/-- what stands for a shout in the copy: the people, the yard, who is there, one sent, one behind another -/
def DCS (q : Nat) (S : Nat → Nat → Int) (Y : Int) (cs : List Cl) (m : List Int) (N : Nat) (K R : Nat → Bool) (hd : Bool) (one tol fo le : Int) (h : Hp) : Prop := CG h S Y ∧ YR q h cs m ∧ (h.2.1 18 0).toInt = N ∧ (∃ C A, BSET (h.2.1 18 7) C ∧ BSET (h.2.1 17 9) A ∧ (∀ p, p < 7 → (C p && !A p) = K p) ∧ ∀ p, p < 7 → ((decide (p < N) && !C p) && !A p) = R p) ∧ h.2.1 17 12 = b2i hd ∧ (h.2.1 17 13).toInt = one ∧ (h.2.1 17 14).toInt = tol ∧ (h.2.1 17 15).toInt = fo ∧ (0 ≤ fo → (h.2.1 17 16).toInt = le)
theorem DCS.fr {q : Nat} (hY : YB q) {S : Nat → Nat → Int} {Y : Int} {cs : List Cl} {m : List Int} {N : Nat} {K R : Nat → Bool} {hd : Bool} {one tol fo le : Int} {h h' : Hp} (hc : DCS q S Y cs m N K R hd one tol fo le h) (hf : frm WCX h h') : DCS q S Y cs m N K R hd one tol fo le h' := by
  obtain ⟨a1, a2, a3, ⟨C, A, c1, c2, c3, c4⟩, a5, a6, a7, a8, a9⟩ := hc
  exact ⟨a1.fr hf, a2.fr hY hf, by rw [frI hf (a := 18) rfl]; exact a3, ⟨C, A, by rw [frI hf (a := 18) rfl]; exact c1, by rw [frI hf (a := 17) rfl]; exact c2, c3, c4⟩, by rw [frI hf (a := 17) rfl]; exact a5, by rw [frI hf (a := 17) rfl]; exact a6, by rw [frI hf (a := 17) rfl]; exact a7, by rw [frI hf (a := 17) rfl]; exact a8, fun z => by rw [frI hf (a := 17) rfl]; exact a9 z⟩
/-- what a shout leaves measured -/
def MSR (S : Nat → Nat → Int) (Y : Int) (cs : List Cl) (m : List Int) (K R : Nat → Bool) (hd : Bool) (one tol fo le : Int) (h : Hp) : Prop := (∀ x, x < 7 → K x = true → (h.2.1 33 x).toInt = zreach S Y cs m x ∧ (h.2.1 34 x).toInt = zhold S Y cs m x) ∧ ∀ x, x < 7 → R x = true → (h.2.1 35 x).toInt = zW S Y cs m K R hd one tol fo le x ∧ (h.2.1 36 x).toInt = zslip S Y cs m (zW S Y cs m K R hd one tol fo le) x
theorem iv_17 : ivl 17 10 = (-2147483648, 2147483647) ∧ ivl 17 11 = (-2147483648, 2147483647) := by decide +kernel
theorem cau_ok {dp q : Nat} (hY : YB q) {S : Nat → Nat → Int} {Y : Int} {cs : List Cl} {m : List Int} {N : Nat} {K R : Nat → Bool} {hd : Bool} {one tol fo le : Int} (hsr : SRG S) (h5 : SR5 S) (hw : YOK cs m) (hY0 : 0 ≤ Y) (hN7 : N ≤ 7) (hfo : FOK fo le N R) {h : Hp} (hh : HI h) (hc : DCS q S Y cs m N K R hd one tol fo le h) (hQ : ∀ (r : Int32) h', HI h' → frm WCX h h' → MSR S Y cs m K R hd one tol fo le h' → BSET r (zcau S Y cs m K R hd one tol fo le) → Q (some (.int r)) h') : Ends X (dp + 1 + 1 + 1 + 1) 10 0 [.ref 17, .retAddr 0, .retAddr 0, .retAddr 0, .retAddr 0, .retAddr 0, .retAddr 0] [] h Q := by
  obtain ⟨a1, a2, a3, ⟨C, A, c1, c2, c3, c4⟩, a5, a6, a7, a8, a9⟩ := id hc
  have t6 := hh.iv 17 14 (r := (0, 6)) rfl
  rw [a7] at t6
  refine w_cau0 hh.hs ?_
  have hK1 : BSET (h.2.1 18 7 &&& (h.2.1 17 9 ^^^ (-1))) K := (c1.no c2).cg c3
  generalize h.2.1 18 7 &&& (h.2.1 17 9 ^^^ (-1)) = kI at hK1
  have g1 : HI (hpI h 17 10 kI) := HI_full hh iv_17.1
  have f1 : frm WCX h (hpI h 17 10 kI) := frm_put frm_refl rfl
  have e18 : (hpI h 17 10 kI).2.1 18 0 = h.2.1 18 0 := put_ne (by omega)
  refine w_rng18 g1.hs (w_evy18 g1.hs ⟨_, rfl, g1.hs, ?_⟩)
  refine ⟨_, rfl, g1.hs, ?_⟩
  rw [e18, put_ne (by omega : ¬ (18 = 17 ∧ 7 = 10)), put_ne (by omega : ¬ (17 = 17 ∧ 9 = 10))]
  have hR1 : BSET ((((1 <<< (h.2.1 18 0 &&& 31)) - 1) &&& (h.2.1 18 7 ^^^ (-1))) &&& (h.2.1 17 9 ^^^ (-1))) R := (((BSET.every a3 hN7).no c1).no c2).cg c4
  generalize (((1 <<< (h.2.1 18 0 &&& 31)) - 1) &&& (h.2.1 18 7 ^^^ (-1))) &&& (h.2.1 17 9 ^^^ (-1)) = rI at hR1
  have g2 : HI (hpI (hpI h 17 10 kI) 17 11 rI) := HI_full g1 iv_17.2
  have f2 : frm WCX h (hpI (hpI h 17 10 kI) 17 11 rI) := frm_put f1 rfl
  have k10 : (hpI (hpI h 17 10 kI) 17 11 rI).2.1 17 10 = kI := by rw [put_ne (by omega), put_at]
  have k11 : (hpI (hpI h 17 10 kI) 17 11 rI).2.1 17 11 = rI := put_at
  generalize hpI (hpI h 17 10 kI) 17 11 rI = h2 at g2 f2 k10 k11
  obtain ⟨b1, b2, b3, -, b5, b6, b7, b8, b9⟩ := id (hc.fr hY f2)
  refine mc_ok hY hsr hw K hd g2 b1 b2 (by rw [k10]; exact hK1) b5 (fun h4 g4 f4 m1 m2 => ⟨rfl, g4.hs, ?_⟩)
  have fx4 := WMC_X f4
  refine cw_ok hsr h5 hY0 R (zin S Y cs m K hd) one tol fo le N hN7 hfo g4 (b1.fr fx4) m2 (by rw [frI f4 (a := 17) rfl, k11]; exact hR1) (by rw [frI f4 (a := 18) rfl]; exact b3) (by rw [frI f4 (a := 17) rfl]; exact b6) (by rw [frI f4 (a := 17) rfl]; exact b7) (by rw [frI f4 (a := 17) rfl]; exact b8) (fun z => by rw [frI f4 (a := 17) rfl]; exact b9 z) (fun h7 g7 f7 w1 => ⟨rfl, g7.hs, ?_⟩)
  have fx7 := frm_trans fx4 (WCW_X f7)
  refine mr_ok hY hsr hw R (zW S Y cs m K R hd one tol fo le) g7 (b1.fr fx7) (b2.fr hY fx7) (by rw [frI f7 (a := 17) rfl, frI f4 (a := 17) rfl, k11]; exact hR1) w1 (fun h10 g10 f10 w2 => ⟨rfl, g10.hs, ?_⟩)
  have fx10 := frm_trans fx7 (WMR_X f10)
  refine lin_ok hsr R fo le N hN7 hfo g10 (b1.fr fx10) (by rw [frI f10 (a := 17) rfl, frI f7 (a := 17) rfl, frI f4 (a := 17) rfl, k11]; exact hR1) (by rw [frI f10 (a := 17) rfl, frI f7 (a := 17) rfl, frI f4 (a := 17) rfl]; exact b8) (fun z => by rw [frI f10 (a := 17) rfl, frI f7 (a := 17) rfl, frI f4 (a := 17) rfl]; exact b9 z) (fun r14 h13 g13 f13 hr14 ol => ⟨r14, rfl, g13.hs, ?_⟩)
  have fx13 := frm_trans fx10 (WOD_X f13)
  have ms : MSR S Y cs m K R hd one tol fo le h13 := ⟨fun x hx hk => by
    rw [frI f13 (a := 33) rfl, frI f13 (a := 34) rfl, frI f10 (a := 33) rfl, frI f10 (a := 34) rfl, frI f7 (a := 33) rfl, frI f7 (a := 34) rfl]
    exact m1 x hx hk, fun x hx hk => by
    rw [frI f13 (a := 35) rfl, frI f13 (a := 36) rfl, frI f10 (a := 35) rfl]
    exact ⟨w1 x hx hk, w2 x hx hk⟩⟩
  have zb := fun x (hx : x < 7) => zW_b (Y := Y) (cs := cs) (m := m) (K := K) (hd := hd) (one := one) hsr h5 hN7 hfo t6 hx
  refine cau_go g13 (zin S Y cs m K hd) (zhold S Y cs m) (zW S Y cs m K R hd one tol fo le) (zslip S Y cs m (zW S Y cs m K R hd one tol fo le)) R _ (zord_len hN7 hfo) ol (zord_el hN7 hfo) (fun j hj => by rw [frI f13 (a := 32) rfl, frI f10 (a := 32) rfl, frI f7 (a := 32) rfl]; exact m2 j hj) (fun x hx hk => ⟨(ms.2 x hx hk).1, zb x hx⟩) (fun x hx hk => (ms.2 x hx hk).2) (fun x hx j hj hz => ?_) r14 hr14 (zord (zhst S) R fo le).length 0 0 0 0 _ _ _ _ (by omega) rfl BSET.zero BSET.zero (fun r hr => hQ r h13 g13 (frm_trans f2 fx13) ms hr)
  have kx : K x = true := by
    unfold zin at hz
    rw [Bool.and_eq_true] at hz
    exact hz.1
  exact ⟨(ms.1 x hx kx).2, zhold_b hsr hw hx⟩
end CROSS
end JN99txbcross
