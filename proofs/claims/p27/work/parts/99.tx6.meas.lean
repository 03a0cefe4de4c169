/-! All who catch, measured; the class's way. -/
def zreach (S : Nat → Nat → Int) (Y : Int) (cs : List Cl) (m : List Int) (p : Nat) : Int := if zhas 0 cs = true then zsum m (zfc S Y p (S 2 p)) 0 cs else 1
def zhold (S : Nat → Nat → Int) (Y : Int) (cs : List Cl) (m : List Int) (p : Nat) : Int := S 4 p + zsum m (zfc S Y p (S 2 p)) 1 cs
/-- who reaches a lane -/
def zin (S : Nat → Nat → Int) (Y : Int) (cs : List Cl) (m : List Int) (K : Nat → Bool) (hd : Bool) (l p : Nat) : Bool := K p && (hd || znr (S 2 p) (zreach S Y cs m p) l)
/-- ranges -/
def SRG (S : Nat → Nat → Int) : Prop := ∀ p, p < 7 → (0 ≤ S 0 p ∧ S 0 p ≤ 6) ∧ (0 ≤ S 1 p ∧ S 1 p ≤ 9) ∧ (0 ≤ S 2 p ∧ S 2 p ≤ 6) ∧ (0 ≤ S 3 p ∧ S 3 p ≤ 9) ∧ (0 ≤ S 4 p ∧ S 4 p ≤ 9)
/-- a yard that stands well -/
def YOK (cs : List Cl) (m : List Int) : Prop := WFC cs m ∧ cs.length ≤ 10 ∧ m.length ≤ 100
theorem YOK.b {cs : List Cl} {m : List Int} (h : YOK cs m) (fc : Int → Int) (w : Int) : 0 ≤ zsum m fc w cs ∧ zsum m fc w cs ≤ 990 := by
  have := zsum_b (m := m) (fc := fc) (w := w) (wf_mem h.1)
  have := h.2.1
  omega
def WMC : List (Nat × Nat) := [(31, 999), (32, 999), (33, 999), (34, 999)]
theorem WMC_X {h h' : Hp} (hf : frm WMC h h') : frm WCX h h' := frm_sub (V := WMC) (by decide) hf
theorem WLR_M {h h' : Hp} (hf : frm WLR h h') : frm WMC h h' := frm_sub (V := WLR) (by decide) hf
theorem WRO_M {h h' : Hp} (hf : frm WRO h h') : frm WMC h h' := frm_sub (V := WRO) (by decide) hf
theorem WMC_i {a k : Nat} (h : 31 ≤ a ∧ a ≤ 34) : inW WMC a k = true := by
  obtain ⟨h1, h2⟩ := h
  have : a = 31 ∨ a = 32 ∨ a = 33 ∨ a = 34 := by omega
  rcases this with rfl | rfl | rfl | rfl <;> simp [inW, WMC]
section MEAS
variable {X : Scr} {Q : Option Value → Hp → Prop}
theorem fil32_go {dp : Nat} (v : Int32) : ∀ (n i : Nat) (iI : Int32) (h : Hp), i + n = 7 → iI.toInt = i → HI h → (∀ j, j < i → h.2.1 32 j = v) → (∀ h', HI h' → frm WRO h h' → (∀ j, j < 7 → h'.2.1 32 j = v) → Q none h') → Ends X dp 221 5 [.ref 32, .int v, .int iI, .int 7] [] h Q
  | n, i, iI, h, hn, hi, hh, hF, hQ => by
    have j7 : (7 : Int32).toInt = 7 := rfl
    refine w_fil32l v iI 7 hh.hs ⟨fun e => ?_, fun e => ⟨inB_iff (by omega) ?_, ?_⟩⟩
    · have e : (7 : Int32).toInt ≤ iI.toInt := of_decide_eq_true (cI e)
      exact hQ h hh frm_refl (fun j hj => hF j (by omega))
    all_goals
      have e : ¬ (7 : Int32).toInt ≤ iI.toInt := of_decide_eq_false (cI e)
    · omega
    · rw [show iI.toNatClampNeg = iI.toInt.toNat from rfl, show iI.toInt.toNat = i by omega]
      obtain ⟨n, rfl⟩ : ∃ k, n = k + 1 := ⟨n - 1, by omega⟩
      refine fil32_go v n (i + 1) (iI + 1) _ (by omega) (by rw [i_add (by rw [i1]; omega) (by rw [i1]; omega), i1]; omega) (HI_full hh (iv_full 32 (by decide) (by decide) i (by omega))) (fun j hj => ?_) (fun h' a1 a2 a3 => hQ h' a1 (frm_trans (frm_put frm_refl WRO_in) a2) a3)
      rw [put_if]
      by_cases c : j = i
      · rw [if_pos c]
      · rw [if_neg c]
        exact hF j (by omega)
theorem fil32_ok {dp : Nat} {h : Hp} (v : Int32) (hh : HI h) (hQ : ∀ h', HI h' → frm WRO h h' → (∀ j, j < 7 → h'.2.1 32 j = v) → Q none h') : Ends X dp 221 0 [.ref 32, .int v, .retAddr 0, .retAddr 0] [] h Q :=
  w_fil32 v hh.hs (fil32_go v 7 0 0 h (by decide) rfl hh (fun j hj => absurd hj (Nat.not_lt_zero j)) hQ)
/-- behind the reach: the hold, and who reaches which lane -/
theorem mc_tail {dp q : Nat} (hY : YB q) {S : Nat → Nat → Int} {Y : Int} {cs : List Cl} {m : List Int} (hsr : SRG S) (hw : YOK cs m) (pI rc s23 : Int32) (p : Nat) (hp : pI.toInt = p) (h7 : p < 7) {h : Hp} (hh : HI h) (hg : CG h S Y) (hr : YR q h cs m) (hF : FCT h (zfc S Y p (S 2 p))) (hrc : rc.toInt = zreach S Y cs m p) (h23 : s23.toInt = S 4 p) (F : Nat → Nat → Bool) (hB : ∀ j, j < 7 → BSET (h.2.1 32 j) (F j)) {R : Hp → Prop}
    (hR : ∀ h', HI h' → frm WMC h h' → (∀ k, ¬ k = p → h'.2.1 33 k = h.2.1 33 k ∧ h'.2.1 34 k = h.2.1 34 k) → (h'.2.1 33 p).toInt = zreach S Y cs m p → (h'.2.1 34 p).toInt = zhold S Y cs m p → (∀ j, j < 7 → BSET (h'.2.1 32 j) (fun x => F j x || (decide (x = p) && znr (S 2 p) (zreach S Y cs m p) j))) → R h') :
    Ends X (dp + 1 + 1) 58 0 [.ref q, .int 1, .ref 31, .retAddr 0, .retAddr 0, .retAddr 0] [] (hpI h 33 pI.toNatClampNeg rc) (fun rv h18 => ∃ r19, rv = some (.int r19) ∧ HS h18 ∧ (inB pI 7 = true ∧ Ends X (dp + 1 + 1) 12 0 [.ref 17, .int pI, .retAddr 0] [] (hpI h18 34 pI.toNatClampNeg (s23 + r19)) (fun rv h22 => rv = none ∧ HS h22 ∧ R h22))) := by
  have en : pI.toNatClampNeg = p := by show pI.toInt.toNat = _; omega
  rw [en]
  have hh1 : HI (hpI h 33 p rc) := HI_full hh (iv_full 33 (by decide) (by decide) p h7)
  have f1 : frm WMC h (hpI h 33 p rc) := frm_put frm_refl (WMC_i (by decide))
  have r1 := hr.fr hY (WMC_X f1)
  have F1 : FCT (hpI h 33 p rc) (zfc S Y p (S 2 p)) := fun j hj => by rw [put_ne (by omega)]; exact hF j hj
  have sr := hsr p h7
  refine ytog_ok hY r1.2 hw.1 hw.2.1 hw.2.2 _ F1 hh1.hs 1 (fun r hr19 => ⟨r, rfl, hh1.hs, inB_iff (by omega) (by omega), ?_⟩)
  have bz := hw.b (zfc S Y p (S 2 p)) 1
  have one : (1 : Int32).toInt = 1 := rfl
  rw [one] at hr19
  have hv : (s23 + r).toInt = zhold S Y cs m p := by
    unfold zhold
    rw [i_add (by rw [h23, hr19]; omega) (by rw [h23, hr19]; omega), h23, hr19]
  generalize s23 + r = w at hv
  have hh2 : HI (hpI (hpI h 33 p rc) 34 p w) := HI_full hh1 (iv_full 34 (by decide) (by decide) p h7)
  have f2 : frm WMC h (hpI (hpI h 33 p rc) 34 p w) := frm_put f1 (WMC_i (by decide))
  have g2 := hg.fr (WMC_X f2)
  refine w_rout0 pI hh2.hs (rout_go pI p hp h7 (S 2 p) (zreach S Y cs m p) sr.2.2.1.1 sr.2.2.1.2 7 0 0 _ F (by decide) rfl hh2 (g2.1 p h7).2.2.1 (by rw [put_ne (by omega), put_at]; exact hrc) (fun j hj => by rw [put_ne (by omega), put_ne (by omega)]; exact hB j hj) (fun h' a1 a2 a3 => ⟨rfl, a1.hs, hR h' a1 (frm_trans f2 (WRO_M a2)) (fun k hk => ?_) ?_ ?_ (fun j hj => (a3 j hj).cg (fun x _ => ?_))⟩))
  · rw [frI a2 (a := 33) rfl, frI a2 (a := 34) rfl, put_ne (by omega), put_ne (by omega), put_ne (by omega), put_ne (by omega)]
    exact ⟨rfl, rfl⟩
  · rw [frI a2 (a := 33) rfl, put_ne (by omega), put_at]
    exact hrc
  · rw [frI a2 (a := 34) rfl, put_at]
    exact hv
  · rw [decide_eq_true (Nat.zero_le j), Bool.true_and]
/-- measured so far -/
def MCI (S : Nat → Nat → Int) (Y : Int) (cs : List Cl) (m : List Int) (K : Nat → Bool) (hd : Bool) (h : Hp) (p : Nat) : Prop := (∀ x, x < p → K x = true → (h.2.1 33 x).toInt = zreach S Y cs m x ∧ (h.2.1 34 x).toInt = zhold S Y cs m x) ∧ ∀ j, j < 7 → BSET (h.2.1 32 j) (fun x => (hd && K x) || (decide (x < p) && (K x && znr (S 2 x) (zreach S Y cs m x) j)))
theorem mc_go {dp q : Nat} (hY : YB q) {S : Nat → Nat → Int} {Y : Int} {cs : List Cl} {m : List Int} (hsr : SRG S) (hw : YOK cs m) (K : Nat → Bool) (hd : Bool) : ∀ (n p : Nat) (pI : Int32) (h : Hp), p + n = 7 → pI.toInt = p → HI h → CG h S Y → YR q h cs m → BSET (h.2.1 17 10) K → MCI S Y cs m K hd h p → (∀ h', HI h' → frm WMC h h' → MCI S Y cs m K hd h' 7 → Q none h') → Ends X (dp + 1 + 1 + 1) 11 24 [.ref 17, .int pI] [] h Q
  | n, p, pI, h, hn, hp, hh, hg, hr, hK, hM, hQ => by
    have j7 : (7 : Int32).toInt = 7 := rfl
    refine w_mc1 hY pI hh.hs ⟨fun e => ?_, fun e => ?_⟩
    · have e : (7 : Int32).toInt ≤ pI.toInt := of_decide_eq_true (cI e)
      have : p = 7 := by omega
      subst this
      exact hQ h hh frm_refl hM
    have e : ¬ (7 : Int32).toInt ≤ pI.toInt := of_decide_eq_false (cI e)
    have h7 : p < 7 := by omega
    have ip : inB pI 7 = true := inB_iff (by omega) (by omega)
    have en : pI.toNatClampNeg = p := by show pI.toInt.toNat = _; omega
    have n1 : (pI + 1).toInt = ((p + 1 : Nat) : Int) := by rw [i_add (by rw [i1]; omega) (by rw [i1]; omega), i1]; omega
    obtain ⟨n, rfl⟩ : ∃ k, n = k + 1 := ⟨n - 1, by omega⟩
    refine isin_ok hK hp h7 hh.hs ⟨_, rfl, hh.hs, fun c => ?_, fun c => ⟨ip, ?_⟩⟩
    · have c := cz c
      refine mc_go hY hsr hw K hd n (p + 1) (pI + 1) h (by omega) n1 hh hg hr hK ⟨fun x hx hk => ?_, fun j hj => (hM.2 j hj).cg (fun x _ => ?_)⟩ hQ
      · by_cases d : x = p
        · rw [d, c] at hk
          cases hk
        · exact hM.1 x (by omega) hk
      · by_cases d : x = p
        · rw [d, c]
          simp only [Bool.false_and, Bool.and_false]
        · by_cases d2 : x < p
          · rw [decide_eq_true d2, decide_eq_true (by omega : x < p + 1)]
          · rw [decide_eq_false d2, decide_eq_false (by omega : ¬ x < p + 1)]
    · have c := cn c
      rw [en]
      have la := (hg.1 p h7).2.2.1
      refine lrn_ok pI (h.2.1 21 p) p hp h7 hh hg (fun h1 a1 a2 a3 => ⟨rfl, a1.hs, ?_⟩)
      rw [la] at a3
      have f1 := WLR_M a2
      have g1 := hg.fr (WMC_X f1)
      have r1 := hr.fr hY (WMC_X f1)
      have hB : ∀ j, j < 7 → BSET (h1.2.1 32 j) (fun x => (hd && K x) || (decide (x < p) && (K x && znr (S 2 x) (zreach S Y cs m x) j))) := fun j hj => by rw [frI a2 (a := 32) rfl]; exact hM.2 j hj
      have s23 := (g1.1 p h7).2.2.2.2
      -- how it goes on behind one that was measured
      have next : ∀ h', HI h' → frm WMC h1 h' → (∀ k, ¬ k = p → h'.2.1 33 k = h1.2.1 33 k ∧ h'.2.1 34 k = h1.2.1 34 k) → (h'.2.1 33 p).toInt = zreach S Y cs m p → (h'.2.1 34 p).toInt = zhold S Y cs m p → (∀ j, j < 7 → BSET (h'.2.1 32 j) (fun x => ((hd && K x) || (decide (x < p) && (K x && znr (S 2 x) (zreach S Y cs m x) j))) || (decide (x = p) && znr (S 2 p) (zreach S Y cs m p) j))) → Ends X (dp + 1 + 1 + 1) 11 24 [.ref 17, .int (pI + 1)] [] h' Q := by
        intro h' b1 b2 b3 b4 b5 b6
        have f2 := frm_trans f1 b2
        refine mc_go hY hsr hw K hd n (p + 1) (pI + 1) h' (by omega) n1 b1 (hg.fr (WMC_X f2)) (hr.fr hY (WMC_X f2)) (by rw [frI f2 (a := 17) rfl]; exact hK) ⟨fun x hx hk => ?_, fun j hj => (b6 j hj).cg (fun x _ => ?_)⟩ (fun h'' d1 d2 d3 => hQ h'' d1 (frm_trans f2 d2) d3)
        · by_cases d : x = p
          · subst d
            exact ⟨b4, b5⟩
          · rw [(b3 x d).1, (b3 x d).2, frI a2 (a := 33) rfl, frI a2 (a := 34) rfl]
            exact hM.1 x (by omega) hk
        · by_cases d : x = p
          · subst d
            rw [c, decide_eq_false (Nat.lt_irrefl x), decide_eq_true (rfl : x = x), decide_eq_true (by omega : x < x + 1)]
            simp only [Bool.false_and, Bool.or_false, Bool.true_and]
          · rw [decide_eq_false d, Bool.false_and, Bool.or_false]
            by_cases d2 : x < p
            · rw [decide_eq_true d2, decide_eq_true (by omega : x < p + 1)]
            · rw [decide_eq_false d2, decide_eq_false (by omega : ¬ x < p + 1)]
      refine ⟨r1.1, yhas_ok hY r1.2 hw.2.1 a1.hs 0 ⟨_, rfl, a1.hs, fun c2 => ⟨ip, ip, (r1.fr hY (WMC_X (frm_put frm_refl (WMC_i (by decide))))).1, ?_⟩, fun c2 => ⟨r1.1, ?_⟩⟩⟩
      · have c2 := cz c2
        have hrc : (1 : Int32).toInt = zreach S Y cs m p := by
          unfold zreach
          rw [show zhas (0 : Int) cs = false from c2, if_neg Bool.false_ne_true]
          rfl
        have mt := mc_tail (X := X) (dp := dp) hY hsr hw pI 1 (h1.2.1 23 p) p hp h7 a1 g1 r1 a3 hrc s23 _ hB next
        rw [en] at mt
        exact mt
      · have c2 := cn c2
        refine ytog_ok hY r1.2 hw.1 hw.2.1 hw.2.2 _ a3 a1.hs 0 (fun r hr' => ⟨r, rfl, a1.hs, ip, ip, (r1.fr hY (WMC_X (frm_put frm_refl (WMC_i (by decide))))).1, ?_⟩)
        have hrc : r.toInt = zreach S Y cs m p := by
          unfold zreach
          rw [show zhas (0 : Int) cs = true from c2, if_pos rfl]
          exact hr'
        have mt := mc_tail (X := X) (dp := dp) hY hsr hw pI r (h1.2.1 23 p) p hp h7 a1 g1 r1 a3 hrc s23 _ hB next
        rw [en] at mt
        exact mt
theorem mc_ok {dp q : Nat} (hY : YB q) {S : Nat → Nat → Int} {Y : Int} {cs : List Cl} {m : List Int} (hsr : SRG S) (hw : YOK cs m) (K : Nat → Bool) (hd : Bool) {h : Hp} (hh : HI h) (hg : CG h S Y) (hr : YR q h cs m) (hK : BSET (h.2.1 17 10) K) (hhd : (h.2.1 17 12) = b2i hd) (hQ : ∀ h', HI h' → frm WMC h h' → (∀ x, x < 7 → K x = true → (h'.2.1 33 x).toInt = zreach S Y cs m x ∧ (h'.2.1 34 x).toInt = zhold S Y cs m x) → (∀ j, j < 7 → BSET (h'.2.1 32 j) (zin S Y cs m K hd j)) → Q none h') : Ends X (dp + 1 + 1 + 1) 11 0 [.ref 17, .retAddr 0] [] h Q := by
  have go : ∀ h1, HI h1 → frm WRO h h1 → (∀ j, j < 7 → BSET (h1.2.1 32 j) (fun x => hd && K x)) → Ends X (dp + 1 + 1 + 1) 11 24 [.ref 17, .int 0] [] h1 Q := by
    intro h1 a1 a2 a3
    have f1 := WRO_M a2
    refine mc_go hY hsr hw K hd 7 0 0 h1 (by decide) rfl a1 (hg.fr (WMC_X f1)) (hr.fr hY (WMC_X f1)) (by rw [frI a2 (a := 17) rfl]; exact hK) ⟨fun x hx => absurd hx (Nat.not_lt_zero x), fun j hj => (a3 j hj).cg (fun x _ => ?_)⟩ (fun h' b1 b2 b3 => hQ h' b1 (frm_trans f1 b2) b3.1 (fun j hj => (b3.2 j hj).cg (fun x hx => ?_)))
    · rw [decide_eq_false (Nat.not_lt_zero x), Bool.false_and, Bool.or_false]
    · unfold zin
      rw [decide_eq_true hx, Bool.true_and]
      cases hd <;> cases K x <;> simp
  refine w_mc0 hh.hs ⟨fun e => fil32_ok 0 hh (fun h1 a1 a2 a3 => ⟨rfl, a1.hs, go h1 a1 a2 (fun j hj => ?_)⟩), fun e => fil32_ok _ hh (fun h1 a1 a2 a3 => ⟨rfl, a1.hs, go h1 a1 a2 (fun j hj => ?_)⟩)⟩
  all_goals rw [hhd] at e
  · have e := cz e
    rw [a3 j hj]
    exact BSET.zero.cg (fun x _ => by rw [e, Bool.false_and])
  · have e := cnF e
    rw [a3 j hj]
    exact hK.cg (fun x _ => by rw [e, Bool.true_and])
end MEAS
