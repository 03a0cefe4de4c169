/-! All who run, one behind the other; the class's way. -/
section LINE
variable {X : Scr} {Q : Option Value → Hp → Prop}
theorem stp_ok {dp : Nat} {S : Nat → Nat → Int} {Y : Int} (hsr : SRG S) (pI mI : Int32) (p : Nat) (hp : pI.toInt = p) (h7 : p < 7) (l : List Int32) (hl : l.length ≤ 6) (hel : ∀ j, j < l.length → 0 ≤ (l.getD j 0).toInt ∧ (l.getD j 0).toInt ≤ 6) (hpw : PWR (fun a b => zhst S b.toInt.toNat ≤ zhst S a.toInt.toNat ∧ a ≠ b) l) {h : Hp} (hm : mI.toInt = l.length) (hh : HI h) (hg : CG h S Y) (ho : OLC h l) (hQ : ∀ h', HI h' → frm WOD h h' → OLC h' (ins l (zpos (zhst S) l p) pI) → Q (some (.int (mI + 1))) h') : Ends X (dp + 1) 21 0 [.ref 17, .int pI, .int mI, .retAddr 0] [] h Q := by
  have zl := zpos_le (H := zhst S) (l := l) (p := p)
  exact w_stp0 pI mI hh.hs (mn6_ok mI (by omega) hh.hs ⟨_, rfl, hh.hs, stp_go hsr pI mI p hp h7 l hl hel hpw (l.length - zpos (zhst S) l p) l.length mI h (by omega) hm (Nat.le_refl _) hh hg ⟨fun j hj => ho j hj, fun j h1 h2 => by omega⟩ hQ⟩)
theorem fol_go {dp : Nat} (mI fI lI : Int32) (le : Int) (hle : lI.toInt = le) (hf0 : 0 ≤ fI.toInt) (hf6 : fI.toInt ≤ 6) (l : List Int32) (hl : l.length ≤ 6) (hel : ∀ j, j < l.length → 0 ≤ (l.getD j 0).toInt ∧ (l.getD j 0).toInt ≤ 6) (hds : ∀ i j, i < j → j < l.length → l.getD i 0 ≠ l.getD j 0) (hin : zidx l le < l.length) : ∀ (k a : Nat) (aI : Int32) (h : Hp), a = zidx l le + 1 + k → aI.toInt = a → a ≤ l.length → HI h → h.2.1 17 15 = fI → h.2.1 17 16 = lI → SHF h l a → (∀ h', HI h' → frm WOD h h' → OLC h' (ins l (zidx l le + 1) fI) → Q (some (.int (mI + 1))) h') → Ends X dp 22 7 [.ref 17, .int mI, .int aI] [] h Q
  | k, a, aI, h, hk, ha, hal, hh, h15, h16, hsh, hQ => by
    obtain ⟨t1, t2, t3⟩ := tws (f := fun x => !decide (x.toInt = le)) (l := l)
    have ia : inB aI 7 = true := inB_iff (by omega) (by omega)
    have ea : aI.toNatClampNeg = a := by show aI.toInt.toNat = _; omega
    have z0' : (0 : Int32).toInt = 0 := rfl
    refine w_fol1 mI aI hh.hs ⟨fun e => ?_, fun e => ?_⟩
    · exfalso
      have e : aI.toInt ≤ (0 : Int32).toInt := of_decide_eq_true (cI e)
      omega
    obtain ⟨b, rfl⟩ : ∃ b, a = b + 1 := ⟨a - 1, by omega⟩
    have d1 : (aI - 1).toInt = b := by rw [i_sub (by rw [i1]; omega) (by rw [i1]; omega), i1]; omega
    have ib : inB (aI - 1) 7 = true := inB_iff (by omega) (by omega)
    have eb : (aI - 1).toNatClampNeg = b := by show (aI - 1).toInt.toNat = _; omega
    have cb := hsh.1 b (Nat.lt_succ_self b)
    have rb := hel b (by omega)
    have b7 : b + 1 < 7 := by omega
    have ti : (l.getD (zidx l le) 0).toInt = le := by
      rcases t2 with t2 | t2
      · have : zidx l le = l.length := t2
        omega
      · have t2 : (!decide ((l.getD (zidx l le) 0).toInt = le)) = false := t2
        rw [Bool.not_eq_false'] at t2
        exact of_decide_eq_true t2
    refine ⟨ib, ?_⟩
    rw [ea, eb, h15, h16]
    refine ⟨fun c => ⟨ia, ?_⟩, fun c => ⟨ib, ia, ?_⟩⟩
    · have c : (h.2.1 37 b).toInt = lI.toInt := of_decide_eq_true (cI c)
      rw [cb] at c
      have bz : b = zidx l le := by
        apply Decidable.byContradiction
        intro q
        have q2 : zidx l le < b := by omega
        exact hds _ _ q2 (by omega) (Int32.toInt.inj (by rw [ti, c, hle]))
      refine hQ _ (HI_37 hh b7 hf0 hf6) (frm_put frm_refl WOD_in) ?_
      rw [← bz]
      exact hsh.end hal
    · have c : ¬ (h.2.1 37 b).toInt = lI.toInt := of_decide_eq_false (cI c)
      rw [cb] at c
      have hkb : zidx l le + 1 ≤ b := by
        apply Decidable.byContradiction
        intro q
        have : b = zidx l le := by omega
        rw [this, ti, hle] at c
        exact c rfl
      have f1 : frm WOD h (hpI h 37 (b + 1) (h.2.1 37 b)) := frm_put frm_refl WOD_in
      have am : (aI + (-1)).toInt = b := by rw [i_add (by rw [im1]; omega) (by rw [im1]; omega), im1]; omega
      have g37 : HI (hpI h 37 (b + 1) (h.2.1 37 b)) := HI_37 hh b7 (by rw [cb]; exact rb.1) (by rw [cb]; exact rb.2)
      have n1 : (hpI h 37 (b + 1) (h.2.1 37 b)).2.1 17 15 = fI := by rw [put_ne (by omega)]; exact h15
      have n2 : (hpI h 37 (b + 1) (h.2.1 37 b)).2.1 17 16 = lI := by rw [put_ne (by omega)]; exact h16
      match k, hk with
      | 0, hk => omega
      | k + 1, hk => exact fol_go mI fI lI le hle hf0 hf6 l hl hel hds hin k b (aI + (-1)) _ (Nat.succ.inj hk) am (Nat.le_of_succ_le hal) g37 n1 n2 hsh.on (fun h' g1 g2 g3 => hQ h' g1 (frm_trans f1 g2) g3)
theorem fol_ok {dp : Nat} (mI : Int32) (fo le : Int) (l : List Int32) (hl : l.length ≤ 6) (hel : ∀ j, j < l.length → 0 ≤ (l.getD j 0).toInt ∧ (l.getD j 0).toInt ≤ 6) (hds : ∀ i j, i < j → j < l.length → l.getD i 0 ≠ l.getD j 0) (hin : zidx l le < l.length) (h0 : 0 ≤ fo) (h6 : fo ≤ 6) {h : Hp} (hm : mI.toInt = l.length) (hh : HI h) (h15 : (h.2.1 17 15).toInt = fo) (h16 : (h.2.1 17 16).toInt = le) (ho : OLC h l) (hQ : ∀ h', HI h' → frm WOD h h' → OLC h' (ins l (zidx l le + 1) (Int32.ofNat fo.toNat)) → Q (some (.int (mI + 1))) h') : Ends X (dp + 1) 22 0 [.ref 17, .int mI, .retAddr 0] [] h Q := by
  have ef : Int32.ofNat fo.toNat = h.2.1 17 15 := ofn (by omega)
  rw [ef] at hQ
  exact w_fol0 mI hh.hs (mn6_ok mI (by omega) hh.hs ⟨_, rfl, hh.hs, fol_go mI _ _ le h16 (by omega) (by omega) l hl hel hds hin (l.length - (zidx l le + 1)) l.length mI h (by omega) hm (Nat.le_refl _) hh rfl rfl ⟨fun j hj => ho j hj, fun j h1 h2 => by omega⟩ hQ⟩)
theorem zlay_el {H : Nat → Int} {R : Nat → Bool} {fo : Int} {n : Nat} (h7 : n ≤ 7) : ∀ j, j < (zlay H R fo n).length → ∃ x : Nat, x < n ∧ ((zlay H R fo n).getD j 0).toInt = x ∧ R x = true ∧ ¬ (x : Int) = fo := by
  intro j hj
  obtain ⟨i, h1, h2, h3, h4⟩ := (zmem H R fo n h7 _).mp (gmem hj)
  exact ⟨i, h1, by rw [h2, i32n (by omega)], h3, h4⟩
theorem zidx_lt {H : Nat → Int} {R : Nat → Bool} {fo le : Int} {n : Nat} (h7 : n ≤ 7) (h0 : 0 ≤ le) (hn : le < n) (hr : R le.toNat = true) (hne : fo ≠ le) : zidx (zlay H R fo n) le < (zlay H R fo n).length := by
  obtain ⟨t1, t2, t3⟩ := tws (f := fun x => !decide (x.toInt = le)) (l := zlay H R fo n)
  have t3 : zidx (zlay H R fo n) le ≤ (zlay H R fo n).length := t3
  rcases Nat.lt_or_ge (zidx (zlay H R fo n) le) (zlay H R fo n).length with c | c
  · exact c
  exfalso
  have m := (zmem H R fo n h7 (Int32.ofNat le.toNat)).mpr ⟨le.toNat, by omega, rfl, hr, by omega⟩
  obtain ⟨j, hj, e⟩ := List.getElem_of_mem m
  have := t1 j (by show j < zidx (zlay H R fo n) le; omega)
  rw [List.getD_eq_getElem?_getD, List.getElem?_eq_getElem hj] at this
  have e2 : (Int32.ofNat le.toNat).toInt = le := by rw [i32n (by omega)]; omega
  simp only [Option.getD_some, e, e2, decide_true, Bool.not_true] at this
  cases this
theorem lin_go {dp : Nat} {S : Nat → Nat → Int} {Y : Int} (hsr : SRG S) (R : Nat → Bool) (fo le : Int) (N : Nat) (hN7 : N ≤ 7) (hfo : FOK fo le N R) : ∀ (n p : Nat) (pI mI : Int32) (h : Hp), p + n = 7 → pI.toInt = p → mI.toInt = (zlay (zhst S) R fo p).length → HI h → CG h S Y → BSET (h.2.1 17 11) R → (h.2.1 17 15).toInt = fo → (0 ≤ fo → (h.2.1 17 16).toInt = le) → OLC h (zlay (zhst S) R fo p) → (∀ (r : Int32) h', HI h' → frm WOD h h' → r.toInt = (zord (zhst S) R fo le).length → OLC h' (zord (zhst S) R fo le) → Q (some (.int r)) h') → Ends X (dp + 1 + 1) 20 4 [.ref 17, .int mI, .int pI] [] h Q
  | n, p, pI, mI, h, hn, hp, hm, hh, hg, hR, h15, h16, ho, hQ => by
    have j7 : (7 : Int32).toInt = 7 := rfl
    have z0' : (0 : Int32).toInt = 0 := rfl
    have zl := zlay_len (zhst S) R fo p
    have hel : ∀ j, j < (zlay (zhst S) R fo p).length → 0 ≤ ((zlay (zhst S) R fo p).getD j 0).toInt ∧ ((zlay (zhst S) R fo p).getD j 0).toInt ≤ 6 := fun j hj => by
      obtain ⟨x, x1, x2, -⟩ := zlay_el (by omega) j hj
      omega
    have pw := zlay_pw (zhst S) R fo p (by omega)
    refine w_lin1 mI pI hh.hs ⟨fun e => ⟨fun e2 => ?_, fun e2 => ?_⟩, fun e => ?_⟩
    · have e : (7 : Int32).toInt ≤ pI.toInt := of_decide_eq_true (cI e)
      have e2 : (0 : Int32).toInt ≤ (h.2.1 17 15).toInt := of_decide_eq_true (cI e2)
      have p7 : p = 7 := by omega
      subst p7
      have f := hfo.resolve_left (by omega)
      have l6 : (zlay (zhst S) R fo 7).length ≤ 6 := by
        rw [if_pos (by omega)] at zl
        omega
      have hin := zidx_lt (H := zhst S) (fo := fo) (n := 7) (by decide) f.2.2.1 (by omega) f.2.2.2.2.2.2 f.2.2.2.2.1
      have zo : zord (zhst S) R fo le = ins (zlay (zhst S) R fo 7) (zidx (zlay (zhst S) R fo 7) le + 1) (Int32.ofNat fo.toNat) := if_pos f.1
      rw [zo, ins_len (by omega)] at hQ
      exact fol_ok mI fo le _ l6 hel (fun i j a b => (pw i j a b).2) hin f.1 (by omega) hm hh h15 (h16 f.1) ho (fun h' g1 g2 g3 => ⟨_, rfl, g1.hs, hQ _ h' g1 g2 (by rw [i_add (by rw [i1]; omega) (by rw [i1]; omega), i1]; omega) g3⟩)
    · have e : (7 : Int32).toInt ≤ pI.toInt := of_decide_eq_true (cI e)
      have e2 : ¬ (0 : Int32).toInt ≤ (h.2.1 17 15).toInt := of_decide_eq_false (cI e2)
      have p7 : p = 7 := by omega
      subst p7
      have zo : zord (zhst S) R fo le = zlay (zhst S) R fo 7 := if_neg (by omega)
      rw [zo] at hQ
      exact hQ mI h hh frm_refl hm ho
    have e : ¬ (7 : Int32).toInt ≤ pI.toInt := of_decide_eq_false (cI e)
    have h7 : p < 7 := by omega
    have n1 : (pI + 1).toInt = ((p + 1 : Nat) : Int) := by rw [i_add (by rw [i1]; omega) (by rw [i1]; omega), i1]; omega
    obtain ⟨n, rfl⟩ : ∃ k, n = k + 1 := ⟨n - 1, by omega⟩
    have keep : (R p && !decide ((p : Int) = fo)) = false → Ends X (dp + 1 + 1) 20 4 [.ref 17, .int mI, .int (pI + 1)] [] h Q := by
      intro c
      have st : zlay (zhst S) R fo (p + 1) = zlay (zhst S) R fo p := if_neg (by rw [c]; exact Bool.false_ne_true)
      exact lin_go hsr R fo le N hN7 hfo n (p + 1) (pI + 1) mI h (by omega) n1 (by rw [st]; exact hm) hh hg hR h15 h16 (by rw [st]; exact ho) hQ
    refine isin_ok hR hp h7 hh.hs ⟨_, rfl, hh.hs, fun c => ?_, fun c => ⟨fun c2 => ?_, fun c2 => ?_⟩⟩
    · exact keep (by rw [cz c]; rfl)
    · have c2 : pI.toInt = (h.2.1 17 15).toInt := of_decide_eq_true (cI c2)
      exact keep (by rw [decide_eq_true (by omega : (p : Int) = fo), Bool.not_true, Bool.and_false])
    · have c := cn c
      have c2 : ¬ pI.toInt = (h.2.1 17 15).toInt := of_decide_eq_false (cI c2)
      have st : zlay (zhst S) R fo (p + 1) = ins (zlay (zhst S) R fo p) (zpos (zhst S) (zlay (zhst S) R fo p) p) (Int32.ofNat p) := if_pos (by rw [c, decide_eq_false (by omega : ¬ (p : Int) = fo)]; rfl)
      have l6 : (zlay (zhst S) R fo p).length ≤ 6 := by omega
      refine stp_ok hsr pI mI p hp h7 _ l6 hel pw hm hh hg ho (fun h' g1 g2 g3 => ⟨_, rfl, g1.hs, ?_⟩)
      rw [ofn hp] at st
      refine lin_go hsr R fo le N hN7 hfo n (p + 1) (pI + 1) (mI + 1) h' (by omega) n1 ?_ g1 (hg.fr (WOD_X g2)) (by rw [frI g2 (a := 17) rfl]; exact hR) (by rw [frI g2 (a := 17) rfl]; exact h15) (fun z => by rw [frI g2 (a := 17) rfl]; exact h16 z) (by rw [st]; exact g3) (fun r h'' d1 d2 d3 d4 => hQ r h'' d1 (frm_trans g2 d2) d3 d4)
      rw [st, ins_len zpos_le, i_add (by rw [i1]; omega) (by rw [i1]; omega), i1]
      omega
theorem lin_ok {dp : Nat} {S : Nat → Nat → Int} {Y : Int} (hsr : SRG S) (R : Nat → Bool) (fo le : Int) (N : Nat) (hN7 : N ≤ 7) (hfo : FOK fo le N R) {h : Hp} (hh : HI h) (hg : CG h S Y) (hR : BSET (h.2.1 17 11) R) (h15 : (h.2.1 17 15).toInt = fo) (h16 : 0 ≤ fo → (h.2.1 17 16).toInt = le) (hQ : ∀ (r : Int32) h', HI h' → frm WOD h h' → r.toInt = (zord (zhst S) R fo le).length → OLC h' (zord (zhst S) R fo le) → Q (some (.int r)) h') : Ends X (dp + 1 + 1) 20 0 [.ref 17, .retAddr 0, .retAddr 0] [] h Q :=
  w_lin0 hh.hs (lin_go hsr R fo le N hN7 hfo 7 0 0 0 h (by decide) rfl rfl hh hg hR h15 h16 (fun j hj => absurd hj (Nat.not_lt_zero j)) hQ)
end LINE
