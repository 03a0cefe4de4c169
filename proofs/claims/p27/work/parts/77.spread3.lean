/-! spread of the reference ends well: its loops. -/
def WSP : List (Nat × Nat) := [(96, 999), (111, 999), (112, 999), (113, 999), (93, 34), (93, 35), (109, 999), (110, 999)]
theorem WSP_a {a k : Nat} (h : (a == 96 || a == 111 || a == 112 || a == 113) = true) : inW WSP a k = true := by
  simp only [Bool.or_eq_true, beq_iff_eq] at h
  rcases h with ((rfl | rfl) | rfl) | rfl <;> simp [inW, WSP]
theorem J1_sp {h0 h : Hp} (hf : frm WSP h0 h) (hj : J1.1 h0) : J1.1 h := KI_dis JS1 (W := WSP) (by decide) hf hj
section SPL
variable {X : Scr} {dp : Nat} {h0 : Hp} {Q : Option Value → Hp → Prop}
def OLD7 (h0 h : Hp) : Prop := ∀ q, q < 7 → h.2.1 113 q = h0.2.1 96 q
theorem sp_150 (k n m g : Int32) (b : Value) (hn : 0 ≤ n.toInt) (hn3 : n.toInt ≤ 3) (hQ : ∀ (r : Int32) h', HI h' → frm WSP h0 h' → (∀ q, q < 7 → h'.2.1 96 q = h0.2.1 96 q) → Q (some (.int r)) h') :
    ∀ (s pn : Nat) (p : Int32) (h : Hp), HI h → frm WSP h0 h → OLD7 h0 h → p.toInt = pn → pn + s = 7 → (∀ q, q < pn → h.2.1 96 q = h0.2.1 96 q) →
    Ends X dp 173 150 [.ref 93, .int k, .int n, .int m, .int g, .int p, b] [] h Q
  | s, pn, p, h, hh, hf, ho, hp, hs, hl => by
    have i7 : (7 : Int32).toInt = 7 := rfl
    refine w_sp150 k n m g p b hh.hs ⟨fun e => ⟨fun e2 => ⟨fun e3 => ?_, fun e3 => ?_⟩, fun e2 => ?_⟩, fun e => ?_⟩
    all_goals have e := cI e
    all_goals simp only [cndI, i7, decide_eq_true_eq, decide_eq_false_iff_not] at e
    · exact hQ _ h hh hf (fun q hq => hl q (by omega))
    · have e2 : 0 ≤ k.toInt := of_decide_eq_true (cI e2)
      have e3 : ¬ n.toInt ≤ k.toInt := of_decide_eq_false (cI e3)
      exact ⟨inB_iff e2 (by omega), hQ _ h hh hf (fun q hq => hl q (by omega))⟩
    · exact hQ _ h hh hf (fun q hq => hl q (by omega))
    · match s, hs with
      | 0, hs => omega
      | s + 1, hs =>
        have hp1 : (p + 1).toInt = ((pn + 1 : Nat) : Int) := by rw [i_add (by rw [i1]; omega) (by rw [i1]; omega), i1]; omega
        generalize p + 1 = p1 at hp1 ⊢
        have q1 : p.toNatClampNeg = pn := by show p.toInt.toNat = _; omega
        refine ⟨inB_iff (by omega) (by omega), inB_iff (by omega) (by omega), ?_⟩
        rw [q1]
        have hv := HI.iv hh 113 pn (r := (0, 6)) rfl
        refine sp_150 k n m g b hn hn3 hQ s (pn + 1) p1 _ (HI_put hh hv.1 hv.2) (frm_put hf (WSP_a rfl)) (fun q hq => ?_) hp1 (by omega) (fun q hq => ?_)
        · rw [put_ne (by omega)]
          exact ho q hq
        · by_cases c : q = pn
          · rw [c, put_at]
            exact ho pn (by omega)
          · rw [put_ne (by omega)]
            exact hl q (by omega)
theorem sp_80z (k n m g : Int32) (nn : Nat) (hn : n.toInt = nn) (hn3 : nn ≤ 3) (a b : Value) (h : Hp) (hh : HI h) (hf : frm WSP h0 h) (ho : OLD7 h0 h) (hg : g = 0)
    (hQ : ∀ (r : Int32) h', HI h' → frm WSP h0 h' → (∀ q, q < 7 → h'.2.1 96 q = h0.2.1 96 q) → Q (some (.int r)) h') : Ends X (dp + 1) 173 80 [.ref 93, .int k, .int n, .int m, .int g, a, b] [] h Q := by
  refine w_sp80 k n m g a b hh.hs ⟨fun e => ?_, fun e => ?_⟩
  · exact sp_150 k n m g b (by omega) (by omega) hQ 7 0 0 h hh hf ho rfl (by omega) (fun q hq => by omega)
  · exfalso
    have e : ¬ g.toInt = 0 := of_decide_eq_false (cI e)
    rw [hg] at e
    exact e rfl
theorem sp_nx (k n m i : Int32) (b : Value) (nn : Nat) (hn : n.toInt = nn) (hn3 : nn ≤ 3) (M : Nat)
    (hQ : ∀ (r : Int32) h', HI h' → frm WSP h0 h' → (∀ q, q < 7 → h'.2.1 96 q = h0.2.1 96 q) → Q (some (.int r)) h')
    (ih : ∀ M', M' < M → ∀ (g : Int32) (d : Nat → Nat) (h : Hp), HI h → frm WSP h0 h → OLD7 h0 h → D3 h d → mD d + M' = 343 → Ends X (dp + 1 + 1 + 1) 173 80 [.ref 93, .int k, .int n, .int m, .int g, .int i, b] [] h Q)
    (d : Nat → Nat) (h : Hp) (hh : HI h) (hf : frm WSP h0 h) (ho : OLD7 h0 h) (hd : D3 h d) (hM : mD d + M = 343) :
    Ends X (dp + 1 + 1) 172 0 [.ref 93, .int n, .retAddr 0] [] h (fun rv h12 => ∃ r13 : Int32, rv = some (.int r13) ∧ HS h12 ∧ Ends X (dp + 1 + 1 + 1) 173 80 [.ref 93, .int k, .int n, .int m, .int r13, .int i, b] [] h12 Q) := by
  refine next_ok n nn hn hn3 d hh hd (fun r2 h3 r01 hh3 hf3 hx => ⟨r2, rfl, hh3.hs, ?_⟩)
  have f3 : frm WSP h0 h3 := frm_trans hf (frm_sub (V := WRN) (by decide) hf3)
  have o3 : OLD7 h0 h3 := fun q hq => by rw [frI hf3 rfl]; exact ho q hq
  by_cases z : r2 = 0
  · exact sp_80z k n m r2 nn hn hn3 _ b h3 hh3 f3 o3 z hQ
  · obtain ⟨d', a1, a2⟩ := hx z
    have b0 := (a1 0 (by omega)).2
    have b1 := (a1 1 (by omega)).2
    have b2 := (a1 2 (by omega)).2
    have bnd : mD d' ≤ 342 := by
      unfold mD
      omega
    exact ih (343 - mD d') (by omega) r2 d' h3 hh3 f3 o3 a1 (by omega)
theorem sp_111 (k n m g i : Int32) (d : Nat → Nat)
    (ct : ∀ (b : Value) h, HI h → frm WSP h0 h → OLD7 h0 h → D3 h d → Ends X (dp + 1 + 1) 172 0 [.ref 93, .int n, .retAddr 0] [] h (fun rv h12 => ∃ r13 : Int32, rv = some (.int r13) ∧ HS h12 ∧ Ends X (dp + 1 + 1 + 1) 173 80 [.ref 93, .int k, .int n, .int m, .int r13, .int i, b] [] h12 Q)) :
    ∀ (s jn : Nat) (j : Int32) (h : Hp), HI h → frm WSP h0 h → OLD7 h0 h → D3 h d → j.toInt = jn → jn + s = 3 → Ends X (dp + 1 + 1 + 1) 173 111 [.ref 93, .int k, .int n, .int m, .int g, .int i, .int j] [] h Q
  | s, jn, j, h, hh, hf, ho, hd, hj, hs => by
    have i3 : (3 : Int32).toInt = 3 := rfl
    refine w_sp111 k n m g i j hh.hs ⟨fun e => ct _ h hh hf ho hd, fun e => ?_⟩
    have e := cI e
    simp only [cndI, i3, decide_eq_false_iff_not] at e
    match s, hs with
    | 0, hs => omega
    | s + 1, hs =>
      have hj1 : (j + 1).toInt = ((jn + 1 : Nat) : Int) := by rw [i_add (by rw [i1]; omega) (by rw [i1]; omega), i1]; omega
      generalize j + 1 = j1 at hj1 ⊢
      have q1 : j.toNatClampNeg = jn := by show j.toInt.toNat = _; omega
      have dv := hd jn (by omega)
      refine ⟨inB_iff (by omega) (by omega), inB_iff (by omega) (by omega), ?_⟩
      rw [q1]
      refine sp_111 k n m g i d ct s (jn + 1) j1 _ (HI_put hh (by show (0 : Int) ≤ _; omega) (by show _ ≤ (6 : Int); omega)) (frm_put hf (WSP_a rfl)) (fun q hq => ?_) (fun q hq => ?_) hj1 (by omega)
      · rw [put_ne (by omega)]; exact ho q hq
      · rw [put_ne (by omega)]; exact hd q hq
theorem sp_80 (k n : Int32) (nn : Nat) (hn : n.toInt = nn) (hn3 : nn ≤ 3) (hd : 40 ≤ dp) (hj : J1.1 h0) (hg : (h0.2.1 93 32).toInt = 0) (hc : cnt h0 7 ≤ 3)
    (hQ : ∀ (r : Int32) h', HI h' → frm WSP h0 h' → (∀ q, q < 7 → h'.2.1 96 q = h0.2.1 96 q) → Q (some (.int r)) h') :
    ∀ (M : Nat) (m g : Int32) (a b : Value) (d : Nat → Nat) (h : Hp), HI h → frm WSP h0 h → OLD7 h0 h → D3 h d → mD d + M = 343 →
    Ends X (dp + 1 + 1 + 1) 173 80 [.ref 93, .int k, .int n, .int m, .int g, a, b] [] h Q := by
  intro M
  induction M using Nat.strongRecOn with
  | ind M ih =>
    intro m g a b d h hh hf ho hd3 hm
    refine w_sp80 k n m g a b hh.hs ⟨fun e => ?_, fun e => ?_⟩
    · exact sp_150 k n m g b (by omega) (by omega) hQ 7 0 0 h hh hf ho rfl (by omega) (fun q hq => by omega)
    · have hcf : cnt h 7 ≤ 3 := by rw [cnt_fr hf rfl rfl]; exact hc
      refine w_sa0 hh.hs ?_
      refine sa_loop (h0 := h) d hd3 hcf (fun h1 hh1 hf1 => ⟨rfl, hh1.hs, ?_⟩) (h.2.1 93 0).toInt.toNat 0 0 0 h hh frm_refl rfl (by omega) rfl
      have f1 : frm WSP h0 h1 := frm_trans hf (frm_sub (V := WLN) (by decide) hf1)
      refine (caught_s1 (Nat.le_trans (by decide) (show 40 ≤ dp + 1 + 1 by omega)) hh1 (J1_sp f1 hj)).mono ?_
      rintro _ h2 ⟨c, rfl, c1, c2, hh2, hf2⟩
      refine ⟨c, rfl, hh2.hs, ?_⟩
      have f2 : frm WSP h0 h2 := frm_trans f1 (frm_sub (by decide) hf2)
      have d2 : D3 h2 d := fun j hj => by rw [frI hf2 rfl, frI hf1 rfl]; exact hd3 j hj
      have o2 : OLD7 h0 h2 := fun q hq => by rw [frI hf2 rfl, frI hf1 rfl]; exact ho q hq
      have nx : ∀ (m i : Int32) (b : Value) h, HI h → frm WSP h0 h → OLD7 h0 h → D3 h d → Ends X (dp + 1 + 1) 172 0 [.ref 93, .int n, .retAddr 0] [] h (fun rv h12 => ∃ r13 : Int32, rv = some (.int r13) ∧ HS h12 ∧ Ends X (dp + 1 + 1 + 1) 173 80 [.ref 93, .int k, .int n, .int m, .int r13, .int i, b] [] h12 Q) :=
        fun m i b h3 a1 a2 a3 a4 => sp_nx k n m i b nn hn hn3 M hQ (fun M' hM' g d h b1 b2 b3 b4 b5 => ih M' hM' m g _ b d h b1 b2 b3 b4 b5) d h3 a1 a2 a3 a4 hm
      refine ones_ok c hh2.hs c1 (by omega) (fun r hr => ⟨r, rfl, hh2.hs, fun e2 => ?_, fun e2 => ?_⟩)
      · exact nx m r b h2 hh2 f2 o2 d2
      · exact sp_111 k n r g r d (fun b h3 a1 a2 a3 a4 => nx r r b h3 a1 a2 a3 a4) 3 0 0 h2 hh2 f2 o2 d2 rfl (by omega)
theorem sp_57 (k n : Int32) (ct : ∀ h, HI h → frm WSP h0 h → OLD7 h0 h → D3 h (fun _ => 0) → Ends X dp 173 80 [.ref 93, .int k, .int n, .int (-1), .int 1, .retAddr 0, .retAddr 0] [] h Q) :
    ∀ (s jn : Nat) (j : Int32) (h : Hp), HI h → frm WSP h0 h → OLD7 h0 h → j.toInt = jn → jn + s = 3 → (∀ q, q < jn → (h.2.1 111 q).toInt = 0) → Ends X dp 173 57 [.ref 93, .int k, .int n, .int j, .retAddr 0, .retAddr 0, .retAddr 0] [] h Q
  | s, jn, j, h, hh, hf, ho, hj, hs, hz => by
    have i3 : (3 : Int32).toInt = 3 := rfl
    refine w_sp57 k n j hh.hs ⟨fun e => ?_, fun e => ?_⟩
    all_goals have e := cI e
    all_goals simp only [cndI, i3, decide_eq_true_eq, decide_eq_false_iff_not] at e
    · exact ct h hh hf ho (fun q hq => ⟨hz q (by omega), Nat.zero_le _⟩)
    · match s, hs with
      | 0, hs => omega
      | s + 1, hs =>
        have hj1 : (j + 1).toInt = ((jn + 1 : Nat) : Int) := by rw [i_add (by rw [i1]; omega) (by rw [i1]; omega), i1]; omega
        generalize j + 1 = j1 at hj1 ⊢
        have q1 : j.toNatClampNeg = jn := by show j.toInt.toNat = _; omega
        refine ⟨inB_iff (by omega) (by omega), ?_⟩
        rw [q1]
        refine sp_57 k n ct s (jn + 1) j1 _ (HI_put hh (by show (0 : Int) ≤ 0; decide) (by show (0 : Int) ≤ 7; decide)) (frm_put hf (WSP_a rfl)) (fun q hq => ?_) hj1 (by omega) (fun q hq => ?_)
        · rw [put_ne (by omega)]; exact ho q hq
        · by_cases c : q = jn
          · rw [c, put_at]; rfl
          · rw [put_ne (by omega)]; exact hz q (by omega)
theorem sp_31 (k n : Int32) (ct : ∀ h, HI h → frm WSP h0 h → OLD7 h0 h → Ends X dp 173 57 [.ref 93, .int k, .int n, .int 0, .retAddr 0, .retAddr 0, .retAddr 0] [] h Q) :
    ∀ (s jn : Nat) (j : Int32) (h : Hp), HI h → frm WSP h0 h → j.toInt = jn → jn + s = 7 → (∀ q, q < 7 → h.2.1 96 q = h0.2.1 96 q) → (∀ q, q < jn → h.2.1 113 q = h0.2.1 96 q) → Ends X dp 173 31 [.ref 93, .int k, .int n, .int j, .retAddr 0, .retAddr 0, .retAddr 0] [] h Q
  | s, jn, j, h, hh, hf, hj, hs, hl, hz => by
    have i7 : (7 : Int32).toInt = 7 := rfl
    refine w_sp31 k n j hh.hs ⟨fun e => ?_, fun e => ?_⟩
    all_goals have e := cI e
    all_goals simp only [cndI, i7, decide_eq_true_eq, decide_eq_false_iff_not] at e
    · exact ct h hh hf (fun q hq => hz q (by omega))
    · match s, hs with
      | 0, hs => omega
      | s + 1, hs =>
        have hj1 : (j + 1).toInt = ((jn + 1 : Nat) : Int) := by rw [i_add (by rw [i1]; omega) (by rw [i1]; omega), i1]; omega
        generalize j + 1 = j1 at hj1 ⊢
        have q1 : j.toNatClampNeg = jn := by show j.toInt.toNat = _; omega
        have hv := HI.iv hh 96 jn (r := (0, 6)) rfl
        refine ⟨inB_iff (by omega) (by omega), inB_iff (by omega) (by omega), ?_⟩
        rw [q1]
        refine sp_31 k n ct s (jn + 1) j1 _ (HI_put hh hv.1 hv.2) (frm_put hf (WSP_a rfl)) hj1 (by omega) (fun q hq => ?_) (fun q hq => ?_)
        · rw [put_ne (by omega)]; exact hl q hq
        · by_cases c : q = jn
          · rw [c, put_at]; exact hl jn (by omega)
          · rw [put_ne (by omega)]; exact hz q (by omega)
end SPL
theorem spread_s {X : Scr} {dp : Nat} {h : Hp} {Q : Option Value → Hp → Prop} (k : Int32) (hd : 40 ≤ dp) (hh : HI h) (hj : J1.1 h) (hg : (h.2.1 93 32).toInt = 0)
    (hQ : ∀ (r : Int32) h', HI h' → frm WSP h h' → (∀ q, q < 7 → h'.2.1 96 q = h.2.1 96 q) → Q (some (.int r)) h') : Ends X (dp + 1 + 1 + 1) 173 0 [.ref 93, .int k, .retAddr 0, .retAddr 0, .retAddr 0, .retAddr 0, .retAddr 0] [] h Q := by
  have hb := hh.iv 93 2 (r := (0, 127)) rfl
  simp only at hb
  refine w_sp0 k hh.hs (in_ok _ _ _ hh.hs ⟨_, rfl, hh.hs, fun e1 => ?_, fun e1 => hQ _ h hh frm_refl (fun _ _ => rfl)⟩)
  refine ones_ok _ hh.hs hb.1 (by omega) (fun r hr => ⟨r, rfl, hh.hs, fun e2 => ?_, fun e2 => hQ _ h hh frm_refl (fun _ _ => rfl)⟩)
  have e2 : r.toInt ≤ 3 := of_decide_eq_true (cI e2)
  have hc : cnt h 7 ≤ 3 := by
    rw [cnt_pop hh hg 7 (Nat.le_refl _)]
    have : popN (h.2.1 93 2).toInt.toNat ≤ 3 := by omega
    exact this
  refine sp_31 (h0 := h) k r (fun h1 a1 a2 a3 => ?_) 7 0 0 h hh frm_refl rfl (by omega) (fun _ _ => rfl) (fun q hq => by omega)
  refine sp_57 k r (fun h2 b1 b2 b3 b4 => ?_) 3 0 0 h1 a1 a2 a3 rfl (by omega) (fun q hq => by omega)
  exact sp_80 k r (popN (h.2.1 93 2).toInt.toNat) hr (by omega) hd hj hg hc hQ 343 _ _ _ _ (fun _ => 0) h2 b1 b2 b3 b4 rfl
