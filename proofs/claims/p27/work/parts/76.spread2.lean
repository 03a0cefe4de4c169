/-! spread of the reference ends well. -/
def D3 (h : Hp) (d : Nat → Nat) : Prop := ∀ j, j < 3 → (h.2.1 111 j).toInt = d j ∧ d j ≤ 6
def upN (d : Nat → Nat) (k v : Nat) : Nat → Nat := fun j => if j = k then v else d j
def WRN : List (Nat × Nat) := [(111, 999)]
theorem WRN_in {k : Nat} : inW WRN 111 k = true := by simp [inW, WRN]
section SPR
variable {X : Scr} {dp : Nat} {h0 : Hp} {Q : Option Value → Hp → Prop}
theorem D3_put {h : Hp} {d : Nat → Nat} {k v : Nat} {x : Int32} (hd : D3 h d) (hx : x.toInt = v) (hv : v ≤ 6) : D3 (hpI h 111 k x) (upN d k v) := by
  intro j hj
  unfold upN
  by_cases c : j = k
  · rw [if_pos c, c, put_at]
    exact ⟨hx, hv⟩
  · rw [if_neg c, put_ne (by omega)]
    exact hd j hj
theorem nr_step (n k k1 : Int32) (kk : Nat) (hk : k.toInt = kk) (hk3 : kk < 3) (hk1 : k1 = k + -1) (d : Nat → Nat) (h : Hp) (hh : HI h) (hf : frm WRN h0 h) (hd : D3 h d)
    (e1 : d kk < 6 → ∀ h', HI h' → frm WRN h0 h' → D3 h' (upN d kk (d kk + 1)) → Q (some (.int 1)) h')
    (e2 : d kk = 6 → ∀ h', HI h' → frm WRN h0 h' → D3 h' (upN d kk 0) → Ends X dp 172 4 [.ref 93, .int n, .int k1] [] h' Q) : Ends X dp 172 4 [.ref 93, .int n, .int k] [] h Q := by
  subst hk1
  have hkk : k.toNatClampNeg = kk := by show k.toInt.toNat = _; omega
  have hi : inB k 3 = true := inB_iff (by omega) (by omega)
  obtain ⟨d1, d2⟩ := hd kk hk3
  refine w_nr1 n k hh.hs ⟨fun e => ?_, fun _ => ⟨hi, hi, hi, fun e => ⟨hi, ?_⟩, fun e => ?_⟩⟩
  · exfalso
    have e : k.toInt < 0 := of_decide_eq_true (cI e)
    omega
  all_goals
    rw [hkk] at e ⊢
    rw [put_at] at e
    have es : (h.2.1 111 kk + 1).toInt = ((d kk + 1 : Nat) : Int) := by rw [i_add (by rw [i1]; omega) (by rw [i1]; omega), i1]; omega
    generalize h.2.1 111 kk + 1 = u at e es ⊢
  · have e : 7 ≤ u.toInt := of_decide_eq_true (cI e)
    have a1 : HI (hpI h 111 kk u) := HI_put hh (by show (0 : Int) ≤ _; omega) (by show _ ≤ (7 : Int); omega)
    refine e2 (by omega) _ (HI_put a1 (by show (0 : Int) ≤ 0; decide) (by show (0 : Int) ≤ 7; decide)) (frm_put (frm_put hf WRN_in) WRN_in) ?_
    intro j hj
    unfold upN
    by_cases c : j = kk
    · rw [if_pos c, c, put_at]
      exact ⟨rfl, by omega⟩
    · rw [if_neg c, put_ne (by omega), put_ne (by omega)]
      exact hd j hj
  · have e : ¬ 7 ≤ u.toInt := of_decide_eq_false (cI e)
    exact e1 (by omega) _ (HI_put hh (by show (0 : Int) ≤ _; omega) (by show _ ≤ (7 : Int); omega)) (frm_put hf WRN_in) (D3_put hd es (by omega))
theorem nr_end (n k : Int32) (hk : k.toInt = -1) (h : Hp) (hh : HI h) (hQ : Q (some (.int 0)) h) : Ends X dp 172 4 [.ref 93, .int n, .int k] [] h Q := by
  refine w_nr1 n k hh.hs ⟨fun _ => hQ, fun e => ?_⟩
  exfalso
  have e : ¬ k.toInt < 0 := of_decide_eq_false (cI e)
  omega
def mD (d : Nat → Nat) : Nat := 49 * d 0 + 7 * d 1 + d 2
theorem next_ok (n : Int32) (nn : Nat) (hn : n.toInt = nn) (hn3 : nn ≤ 3) (d : Nat → Nat) (hh : HI h0) (hd : D3 h0 d)
    (hQ : ∀ (r : Int32) h', (r = 0 ∨ r = 1) → HI h' → frm WRN h0 h' → (¬ r = 0 → ∃ d', D3 h' d' ∧ mD d < mD d') → Q (some (.int r)) h') : Ends X dp 172 0 [.ref 93, .int n, .retAddr 0] [] h0 Q := by
  refine w_nr0 n hh.hs ?_
  have q1 : ∀ d' h', HI h' → frm WRN h0 h' → D3 h' d' → mD d < mD d' → Q (some (.int 1)) h' := fun d' h' a1 a2 a3 a4 => hQ 1 h' (Or.inr rfl) a1 a2 (fun _ => ⟨d', a3, a4⟩)
  have q0 : ∀ h', HI h' → frm WRN h0 h' → Q (some (.int 0)) h' := fun h' a1 a2 => hQ 0 h' (Or.inl rfl) a1 a2 (fun e => absurd rfl e)
  have e0 : (n - 1).toInt = (nn : Int) - 1 := by rw [i_sub (by rw [i1]; omega) (by rw [i1]; omega), i1]; omega
  generalize n - 1 = k2 at e0
  have dec : ∀ (k : Int32) (z : Int), k.toInt = z → 0 ≤ z → z ≤ 3 → (k + -1).toInt = z - 1 := fun k z hk h1 h2 => by rw [i_add (by rw [im1]; omega) (by rw [im1]; omega), im1]; omega
  have b0 := hd 0 (by omega)
  have b1 := hd 1 (by omega)
  have b2 := hd 2 (by omega)
  match nn, hn3 with
  | 0, _ => exact nr_end n k2 (by omega) h0 hh (q0 h0 hh frm_refl)
  | 1, _ =>
    refine nr_step n k2 _ 0 (by omega) (by omega) rfl d h0 hh frm_refl hd (fun c h' a1 a2 a3 => q1 _ h' a1 a2 a3 (by simp [mD, upN])) (fun c h' a1 a2 a3 => ?_)
    exact nr_end n _ (dec k2 0 (by omega) (by omega) (by omega)) h' a1 (q0 h' a1 a2)
  | 2, _ =>
    refine nr_step n k2 _ 1 (by omega) (by omega) rfl d h0 hh frm_refl hd (fun c h' a1 a2 a3 => q1 _ h' a1 a2 a3 (by simp [mD, upN])) (fun c h' a1 a2 a3 => ?_)
    have k1 := dec k2 1 (by omega) (by omega) (by omega)
    generalize k2 + -1 = k1v at k1 ⊢
    refine nr_step n k1v _ 0 (by omega) (by omega) rfl _ h' a1 a2 a3 (fun c' h' a1 a2 a3 => q1 _ h' a1 a2 a3 (by simp [mD, upN]; omega)) (fun c' h' a1 a2 a3 => ?_)
    exact nr_end n _ (dec k1v 0 (by omega) (by omega) (by omega)) h' a1 (q0 h' a1 a2)
  | 3, _ =>
    refine nr_step n k2 _ 2 (by omega) (by omega) rfl d h0 hh frm_refl hd (fun c h' a1 a2 a3 => q1 _ h' a1 a2 a3 (by simp [mD, upN])) (fun c h' a1 a2 a3 => ?_)
    have k1 := dec k2 2 (by omega) (by omega) (by omega)
    generalize k2 + -1 = k1v at k1 ⊢
    refine nr_step n k1v _ 1 (by omega) (by omega) rfl _ h' a1 a2 a3 (fun c' h' a1 a2 a3 => q1 _ h' a1 a2 a3 (by simp [mD, upN]; omega)) (fun c' h' a1 a2 a3 => ?_)
    have k0 := dec k1v 1 (by omega) (by omega) (by omega)
    generalize k1v + -1 = k0v at k0 ⊢
    refine nr_step n k0v _ 0 (by omega) (by omega) rfl _ h' a1 a2 a3 (fun c'' h' a1 a2 a3 => q1 _ h' a1 a2 a3 (by simp [upN] at c'; simp [mD, upN]; omega)) (fun c' h' a1 a2 a3 => ?_)
    exact nr_end n _ (dec k0v 0 (by omega) (by omega) (by omega)) h' a1 (q0 h' a1 a2)
/-- how many of the first do not run -/
def cnt (h : Hp) : Nat → Nat
  | 0 => 0
  | c + 1 => cnt h c + (if runM h (Int32.ofNat c) = true then 0 else 1)
theorem bit_fin : ∀ s, s < 128 → ∀ k, k < 7 → bitB (Int32.ofNat s) (Int32.ofNat k) = s.testBit k := by decide +kernel
theorem cnt_pop {h : Hp} (hh : HI h) (hg : (h.2.1 93 32).toInt = 0) : ∀ c, c ≤ 7 → cnt h c = ((List.range c).filter (fun i => (h.2.1 93 2).toInt.toNat.testBit i)).length
  | 0, _ => rfl
  | c + 1, hc => by
    have hb := hh.iv 93 2 (r := (0, 127)) rfl
    simp only at hb
    have g0 : h.2.1 93 32 = 0 := Int32.toInt.inj (by rw [hg]; rfl)
    have hr : runM h (Int32.ofNat c) = !(h.2.1 93 2).toInt.toNat.testBit c := by
      unfold runM
      rw [g0, Int32.or_zero]
      have e : Int32.ofNat (h.2.1 93 2).toInt.toNat = h.2.1 93 2 := ofn (by omega)
      rw [← bit_fin _ (by omega) c (by omega), e]
    rw [cnt, cnt_pop hh hg c (by omega), List.range_succ, List.filter_append, List.length_append, hr]
    congr 1
    cases e : (h.2.1 93 2).toInt.toNat.testBit c with
    | false => rw [List.filter_cons, e]; rfl
    | true => rw [List.filter_cons, e]; rfl
theorem cnt_mono (h : Hp) {a b : Nat} (hab : a ≤ b) : cnt h a ≤ cnt h b := by
  induction hab with
  | refl => exact Nat.le_refl _
  | step _ ih => exact Nat.le_trans ih (by rw [cnt]; omega)
def WLN : List (Nat × Nat) := [(96, 999)]
theorem WLN_in {k : Nat} : inW WLN 96 k = true := by simp [inW, WLN]
theorem cnt_fr {h : Hp} {W : List (Nat × Nat)} (hf : frm W h0 h) (w1 : inW W 93 2 = false) (w2 : inW W 93 32 = false) : ∀ c, cnt h c = cnt h0 c
  | 0 => rfl
  | c + 1 => by
    have : runM h (Int32.ofNat c) = runM h0 (Int32.ofNat c) := by unfold runM; rw [frI hf w1, frI hf w2]
    rw [cnt, cnt, cnt_fr hf w1 w2 c, this]
theorem sa_loop (d : Nat → Nat) (hd : D3 h0 d) (h3 : cnt h0 7 ≤ 3) (hQ : ∀ h', HI h' → frm WLN h0 h' → Q none h') :
    ∀ (m cn : Nat) (k c : Int32) (h : Hp), HI h → frm WLN h0 h → c.toInt = cn → cn + m = (h0.2.1 93 0).toInt.toNat → k.toInt = cnt h0 cn →
    Ends X (dp + 1 + 1) 171 4 [.ref 93, .int k, .int c] [] h Q
  | m, cn, k, c, h, hh, hf, hc, hm, hk => by
    have hpe := HI.iv hh 93 0 (r := (0, 7)) rfl
    rw [frI hf rfl] at hpe
    simp only at hpe
    refine w_sa1 k c hh.hs ⟨fun e => hQ h hh hf, fun e => ?_⟩
    rw [frI hf rfl] at e
    have e : ¬ (h0.2.1 93 0).toInt ≤ c.toInt := of_decide_eq_false (cI e)
    match m, hm with
    | 0, hm => omega
    | m + 1, hm =>
      have hc1 : (c + 1).toInt = ((cn + 1 : Nat) : Int) := by rw [i_add (by rw [i1]; omega) (by rw [i1]; omega), i1]; omega
      generalize c + 1 = c1 at hc1 ⊢
      have hr : runM h c = runM h0 (Int32.ofNat cn) := by rw [ofn hc]; unfold runM; rw [frI hf rfl, frI hf rfl]
      have hcn : cnt h0 (cn + 1) = cnt h0 cn + (if runM h0 (Int32.ofNat cn) = true then 0 else 1) := rfl
      have hmo := cnt_mono h0 (a := cn + 1) (b := 7) (by omega)
      refine run_ok c hh.hs ⟨_, rfl, hh.hs, fun e2 => ?_, fun e2 => ?_⟩
      · have e2 := cz e2
        rw [hr] at e2
        rw [e2, if_neg (by decide)] at hcn
        have hk1 : (k + 1).toInt = ((cnt h0 (cn + 1) : Nat) : Int) := by rw [i_add (by rw [i1]; omega) (by rw [i1]; omega), i1]; omega
        generalize k + 1 = k1 at hk1 ⊢
        have dk := hd (cnt h0 cn) (by omega)
        have q1 : k.toNatClampNeg = cnt h0 cn := by show k.toInt.toNat = _; omega
        have q2 : c.toNatClampNeg = cn := by show c.toInt.toNat = _; omega
        refine ⟨inB_iff (by omega) (by omega), inB_iff (by omega) (by omega), ?_⟩
        rw [q1, q2]
        have v : h.2.1 111 (cnt h0 cn) = h0.2.1 111 (cnt h0 cn) := frI hf rfl
        rw [v]
        exact sa_loop d hd h3 hQ m (cn + 1) k1 c1 _ (HI_put hh (by show (0 : Int) ≤ _; omega) (by show _ ≤ (6 : Int); omega)) (frm_put hf WLN_in) hc1 (by omega) hk1
      · have e2 : runM h c = true := nb.mp (of_decide_eq_false (cI e2))
        rw [hr] at e2
        rw [e2, if_pos rfl] at hcn
        exact sa_loop d hd h3 hQ m (cn + 1) k c1 h hh hf hc1 (by omega) (by rw [hk, hcn]; rfl)
end SPR
