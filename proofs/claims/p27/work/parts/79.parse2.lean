/-! The reading of the texts of the reference, exactly: its leaves. -/
def nxP (T : Nat → Int) (n a : Nat) : Int := if a < n then T a else -1
/-- the text's bytes, how many there are, the place -/
def tT (h : Hp) : Nat → Int := fun i => (h.2.1 100 i).toInt
def tN (h : Hp) : Nat := (h.2.1 93 11).toInt.toNat
def tA (h : Hp) : Nat := (h.2.1 93 12).toInt.toNat
def isD (x : Int) : Bool := decide (48 ≤ x) && decide (x ≤ 57)
def numP (T : Nat → Int) (n a : Nat) : Option (Int × Nat) := if isD (nxP T n a) = true then (if isD (nxP T n (a + 1)) = true then some (10 * (nxP T n a - 48) + (nxP T n (a + 1) - 48), a + 2) else some (nxP T n a - 48, a + 1)) else none
def plcP (x : Int) : Int := if x = 112 then 0 else if x = 107 then 1 else if x = 108 then 2 else if x = 115 then 3 else if x = 97 then 4 else if x = 121 then 5 else -1
def wrdP (T : Nat → Int) (n : Nat) : List Int → Nat → Bool × Nat
  | [], a => if nxP T n a = 32 then (true, a + 1) else (false, a)
  | c :: l, a => if nxP T n a = c then wrdP T n l (a + 1) else (false, a)
def WA : List (Nat × Nat) := [(93, 12)]
section PARSE
variable {X : Scr} {dp : Nat} {h : Hp} {Q : Option Value → Hp → Prop}
theorem tA_v (hh : HI h) : (h.2.1 93 12).toInt = tA h ∧ tA h ≤ 100 := by
  have := hh.iv 93 12 (r := (0, 100)) rfl
  simp only at this
  unfold tA
  omega
theorem tN_v (hh : HI h) : (h.2.1 93 11).toInt = tN h ∧ tN h ≤ 100 := by
  have := hh.iv 93 11 (r := (0, 100)) rfl
  simp only at this
  unfold tN
  omega
theorem nx_rng (hh : HI h) : -1 ≤ nxP (tT h) (tN h) (tA h) ∧ nxP (tT h) (tN h) (tA h) ≤ 127 ∧ (nxP (tT h) (tN h) (tA h) ≠ -1 → tA h < tN h) := by
  have := hh.iv 100 (tA h) (r := (0, 127)) rfl
  simp only at this
  unfold nxP
  split
  · exact ⟨by unfold tT; omega, by unfold tT; omega, fun _ => by assumption⟩
  · exact ⟨by omega, by omega, fun q => absurd rfl q⟩
theorem nx_ok (hh : HI h) (hQ : ∀ r : Int32, r.toInt = nxP (tT h) (tN h) (tA h) → Q (some (.int r)) h) : Ends X dp 119 0 [.ref 93] [] h Q := by
  obtain ⟨a1, a2⟩ := tA_v hh
  obtain ⟨b1, b2⟩ := tN_v hh
  unfold nxP at hQ
  refine w_next hh.hs ⟨fun e => ?_, fun e => ⟨?_, ?_⟩⟩
  · have e : (h.2.1 93 11).toInt ≤ (h.2.1 93 12).toInt := of_decide_eq_true (cI e)
    exact hQ _ (by rw [if_neg (by omega)]; rfl)
  all_goals have e : ¬ (h.2.1 93 11).toInt ≤ (h.2.1 93 12).toInt := of_decide_eq_false (cI e)
  · exact inB_iff (by omega) (by omega)
  · exact hQ _ (by rw [if_pos (by omega)]; rfl)
theorem tk_ok (c : Int32) (hc : 0 ≤ c.toInt) (hh : HI h)
    (hQ : ∀ h', HI h' → frm WA h h' → tA h' = (if nxP (tT h) (tN h) (tA h) = c.toInt then tA h + 1 else tA h) → Q (some (.int (b2i (decide (nxP (tT h) (tN h) (tA h) = c.toInt))))) h') : Ends X (dp + 1) 120 0 [.ref 93, .int c] [] h Q := by
  obtain ⟨a1, a2⟩ := tA_v hh
  obtain ⟨b1, b2⟩ := tN_v hh
  obtain ⟨n1, n2, n3⟩ := nx_rng hh
  refine w_takes c hh.hs (nx_ok hh (fun r hr => ⟨r, rfl, hh.hs, fun e => ?_, fun e => ?_⟩))
  · have e : r.toInt = c.toInt := of_decide_eq_true (cI e)
    rw [hr] at e
    rw [decide_eq_true e, if_pos e] at hQ
    have lt := n3 (by omega)
    have ev : (h.2.1 93 12 + 1).toInt = ((tA h + 1 : Nat) : Int) := by rw [i_add (by rw [i1]; omega) (by rw [i1]; omega), i1]; omega
    generalize h.2.1 93 12 + 1 = u at ev ⊢
    refine hQ _ (HI_put hh (by show (0 : Int) ≤ _; omega) (by show _ ≤ (100 : Int); omega)) (frm_put frm_refl rfl) ?_
    show ((hpI h 93 12 u).2.1 93 12).toInt.toNat = _
    rw [put_at]
    omega
  · have e : ¬ r.toInt = c.toInt := of_decide_eq_false (cI e)
    rw [hr] at e
    rw [decide_eq_false e, if_neg e] at hQ
    exact hQ h hh frm_refl rfl
theorem tT_fr {W : List (Nat × Nat)} {h' : Hp} (hf : frm W h h') (hw : ∀ k, inW W 100 k = false) : tT h' = tT h := by
  funext i
  unfold tT
  rw [frI hf (hw i)]
theorem tN_fr {W : List (Nat × Nat)} {h' : Hp} (hf : frm W h h') (hw : inW W 93 11 = false) : tN h' = tN h := by
  unfold tN
  rw [frI hf hw]
theorem WA_T (k : Nat) : inW WA 100 k = false := rfl
theorem tw_loop (T : Nat → Int) (n : Nat) (a b : Int32) (an bn : Nat) (ha : a.toInt = an) (hb : b.toInt = bn) (hab : an + bn ≤ 14) (h0 : Hp) (hT : tT h0 = T) (hN : tN h0 = n)
    (hQ : ∀ (ok : Bool) h', HI h' → frm WA h0 h' → (ok, tA h') = wrdP T n ((List.range bn).map (fun k => (h0.2.1 108 (an + k)).toInt)) (tA h0) → Q (some (.int (b2i ok))) h') :
    ∀ (m kn : Nat) (k : Int32) (h : Hp), HI h → frm WA h0 h → k.toInt = kn → kn + m = bn → wrdP T n ((List.range bn).map (fun k => (h0.2.1 108 (an + k)).toInt)) (tA h0) = wrdP T n (((List.range bn).map (fun k => (h0.2.1 108 (an + k)).toInt)).drop kn) (tA h) →
    Ends X (dp + 1 + 1) 121 2 [.ref 93, .int a, .int b, .int k] [] h Q
  | m, kn, k, h, hh, hf, hk, hm, hw => by
    have eT : tT h = T := (tT_fr hf WA_T).trans hT
    have eN : tN h = n := (tN_fr hf rfl).trans hN
    refine w_tw1 a b k hh.hs ⟨fun e => ?_, fun e => ?_⟩
    · have e : b.toInt ≤ k.toInt := of_decide_eq_true (cI e)
      rw [List.drop_eq_nil_of_le (by simp; omega)] at hw
      have i32' : (32 : Int32).toInt = 32 := rfl
      refine tk_ok 32 (by decide) hh (fun h' a1 a2 a3 => ⟨_, rfl, a1.hs, b2i_01 _, hQ _ h' a1 (frm_trans hf a2) ?_⟩)
      rw [hw, wrdP, ← eT, ← eN, a3, i32']
      by_cases c : nxP (tT h) (tN h) (tA h) = 32
      · rw [decide_eq_true c, if_pos c, if_pos c]
      · rw [decide_eq_false c, if_neg c, if_neg c]
    · have e : ¬ b.toInt ≤ k.toInt := of_decide_eq_false (cI e)
      match m, hm with
      | 0, hm => omega
      | m + 1, hm =>
        have hk1 : (k + 1).toInt = ((kn + 1 : Nat) : Int) := by rw [i_add (by rw [i1]; omega) (by rw [i1]; omega), i1]; omega
        have hak : (a + k).toInt = ((an + kn : Nat) : Int) := by rw [i_add (by omega) (by omega)]; omega
        generalize a + k = ak at hak ⊢
        generalize k + 1 = k1 at hk1 ⊢
        have q1 : ak.toNatClampNeg = an + kn := by show ak.toInt.toNat = _; omega
        refine ⟨inB_iff (by omega) (by omega), ?_⟩
        rw [q1]
        have hl := hh.iv 108 (an + kn) (r := (0, 127)) rfl
        simp only at hl
        have vl : h.2.1 108 (an + kn) = h0.2.1 108 (an + kn) := frI hf rfl
        have dr : ((List.range bn).map (fun k => (h0.2.1 108 (an + k)).toInt)).drop kn = (h0.2.1 108 (an + kn)).toInt :: ((List.range bn).map (fun k => (h0.2.1 108 (an + k)).toInt)).drop (kn + 1) := by
          rw [List.drop_eq_getElem_cons (by simp; omega)]
          simp
        rw [dr, wrdP] at hw
        refine tk_ok _ hl.1 hh (fun h' a1 a2 a3 => ⟨_, rfl, a1.hs, fun e2 => ?_, fun e2 => ?_⟩)
        · have e2 := of_decide_eq_true (cn2 e2)
          rw [if_pos e2] at a3
          rw [vl, eT, eN] at e2
          rw [if_pos e2] at hw
          exact tw_loop T n a b an bn ha hb hab h0 hT hN hQ m (kn + 1) k1 h' a1 (frm_trans hf a2) hk1 (by omega) (by rw [a3]; exact hw)
        · have e2 := of_decide_eq_false (cz2 e2)
          rw [if_neg e2] at a3
          rw [vl, eT, eN] at e2
          rw [if_neg e2] at hw
          exact hQ false h' a1 (frm_trans hf a2) (by rw [hw, a3])
theorem tw_ok (a b : Int32) (an bn : Nat) (ha : a.toInt = an) (hb : b.toInt = bn) (hab : an + bn ≤ 14) (hh : HI h)
    (hQ : ∀ (ok : Bool) h', HI h' → frm WA h h' → (ok, tA h') = wrdP (tT h) (tN h) ((List.range bn).map (fun k => (h.2.1 108 (an + k)).toInt)) (tA h) → Q (some (.int (b2i ok))) h') : Ends X (dp + 1 + 1) 121 0 [.ref 93, .int a, .int b, .retAddr 0] [] h Q :=
  w_tw0 a b hh.hs (tw_loop (tT h) (tN h) a b an bn ha hb hab h rfl rfl hQ bn 0 0 h hh frm_refl rfl (by omega) rfl)
theorem dg_ok (hh : HI h) (hQ : Q (some (.int (b2i (isD (nxP (tT h) (tN h) (tA h)))))) h) : Ends X (dp + 1) 122 0 [.ref 93] [] h Q := by
  refine w_isdig hh.hs (nx_ok hh (fun r hr => ⟨r, rfl, hh.hs, in_ok _ _ _ hh.hs ⟨_, rfl, hh.hs, b2i_01 _, ?_⟩⟩))
  have e : (decide ((48 : Int32).toInt ≤ r.toInt) && decide (r.toInt ≤ (57 : Int32).toInt)) = isD (nxP (tT h) (tN h) (tA h)) := by rw [hr]; rfl
  rw [e]
  exact hQ
def WD : List (Nat × Nat) := [(93, 12), (93, 13)]
theorem WD_T (k : Nat) : inW WD 100 k = false := rfl
/-- one digit more -/
theorem tn_step (k k1 : Int32) (kn : Nat) (v : Nat) (hk : k.toInt = kn) (hk2 : kn < 2) (hk1 : k1 = k + 1) (hh : HI h) (hv : (h.2.1 93 13).toInt = v) (hv9 : v ≤ 9)
    (e0 : isD (nxP (tT h) (tN h) (tA h)) = false → Q (some (.int 1)) h)
    (e1 : isD (nxP (tT h) (tN h) (tA h)) = true → ∀ h', HI h' → frm WD h h' → tA h' = tA h + 1 → (h'.2.1 93 13).toInt = 10 * v + (nxP (tT h) (tN h) (tA h) - 48) → Ends X (dp + 1 + 1) 123 16 [.ref 93, .int k1] [] h' Q) : Ends X (dp + 1 + 1) 123 16 [.ref 93, .int k] [] h Q := by
  subst hk1
  obtain ⟨a1, a2⟩ := tA_v hh
  obtain ⟨b1, b2⟩ := tN_v hh
  obtain ⟨n1, n2, n3⟩ := nx_rng hh
  refine w_tn1 k hh.hs ⟨fun e => ?_, fun e => dg_ok hh ⟨_, rfl, hh.hs, fun e2 => e0 (cz e2), fun e2 => nx_ok hh (fun r hr => ⟨r, rfl, hh.hs, ?_⟩)⟩⟩
  · exfalso
    have e : (2 : Int32).toInt ≤ k.toInt := of_decide_eq_true (cI e)
    have i2 : (2 : Int32).toInt = 2 := rfl
    omega
  · have e2 := cn e2
    have d := e2
    unfold isD at d
    simp only [Bool.and_eq_true, decide_eq_true_eq] at d
    have lt := n3 (by omega)
    have g1 : (10 * h.2.1 93 13).toInt = 10 * (v : Int) := by rw [i_mul (by rw [i10]; omega) (by rw [i10]; omega), i10, hv]
    generalize 10 * h.2.1 93 13 = u1 at g1 ⊢
    have g2 : (u1 + r).toInt = 10 * (v : Int) + nxP (tT h) (tN h) (tA h) := by rw [i_add (by omega) (by omega)]; omega
    generalize u1 + r = u2 at g2 ⊢
    have i48 : (48 : Int32).toInt = 48 := rfl
    have g3 : (u2 - 48).toInt = 10 * (v : Int) + (nxP (tT h) (tN h) (tA h) - 48) := by rw [i_sub (by rw [i48]; omega) (by rw [i48]; omega), i48]; omega
    generalize u2 - 48 = u3 at g3 ⊢
    have p12 : (hpI h 93 13 u3).2.1 93 12 = h.2.1 93 12 := put_ne (by omega)
    rw [p12]
    have g4 : (h.2.1 93 12 + 1).toInt = ((tA h + 1 : Nat) : Int) := by rw [i_add (by rw [i1]; omega) (by rw [i1]; omega), i1]; omega
    generalize h.2.1 93 12 + 1 = u4 at g4 ⊢
    refine e1 e2 _ (HI_put (HI_put hh (by show (0 : Int) ≤ _; omega) (by show _ ≤ (99 : Int); omega)) (by show (0 : Int) ≤ _; omega) (by show _ ≤ (100 : Int); omega)) (frm_put (frm_put frm_refl rfl) rfl) ?_ ?_
    · show ((hpI (hpI h 93 13 u3) 93 12 u4).2.1 93 12).toInt.toNat = _
      rw [put_at]
      omega
    · rw [put_ne (by omega), put_at]
      exact g3
theorem tn_end (k : Int32) (hk : k.toInt = 2) (hh : HI h) (hQ : Q (some (.int 1)) h) : Ends X (dp + 1 + 1) 123 16 [.ref 93, .int k] [] h Q := by
  refine w_tn1 k hh.hs ⟨fun _ => hQ, fun e => ?_⟩
  exfalso
  have e : ¬ (2 : Int32).toInt ≤ k.toInt := of_decide_eq_false (cI e)
  have i2 : (2 : Int32).toInt = 2 := rfl
  omega
theorem tn_ok (hh : HI h) (hQ : ∀ (ok : Bool) h', HI h' → frm WD h h' → (match numP (tT h) (tN h) (tA h) with | some (v, a) => ok = true ∧ tA h' = a ∧ (h'.2.1 93 13).toInt = v | none => ok = false ∧ tA h' = tA h) → Q (some (.int (b2i ok))) h') : Ends X (dp + 1 + 1) 123 0 [.ref 93, .retAddr 0] [] h Q := by
  have z2 : (2 : Int32).toInt = 2 := rfl
  unfold numP at hQ
  refine w_tn0 hh.hs (dg_ok hh ⟨_, rfl, hh.hs, fun e => ?_, fun e => ?_⟩)
  · have e := cn2 e
    rw [if_pos e] at hQ
    have d := e
    unfold isD at d
    simp only [Bool.and_eq_true, decide_eq_true_eq] at d
    have hh1 : HI (hpI h 93 13 0) := HI_put hh (by show (0 : Int) ≤ 0; decide) (by show (0 : Int) ≤ 99; decide)
    have f1 : frm WD h (hpI h 93 13 0) := frm_put frm_refl rfl
    have eT := tT_fr f1 WD_T
    have eN := tN_fr f1 rfl
    have eA : tA (hpI h 93 13 0) = tA h := by unfold tA; rw [put_ne (by omega)]
    refine tn_step (h := hpI h 93 13 0) 0 (0 + 1) 0 0 rfl (by omega) rfl hh1 (by rw [put_at]; rfl) (by omega) (fun q => ?_) (fun q h2 hh2 f2 a2 v2 => ?_)
    · rw [eT, eN, eA, e] at q
      cases q
    · have f2' := frm_trans f1 f2
      have eT2 := tT_fr f2' WD_T
      have eN2 := tN_fr f2' rfl
      rw [eT, eN, eA] at v2
      rw [eA] at a2
      refine tn_step (h := h2) (0 + 1) (0 + 1 + 1) 1 (nxP (tT h) (tN h) (tA h) - 48).toNat rfl (by omega) rfl hh2 (by omega) (by omega) (fun q => ?_) (fun q h3 hh3 f3 a3 v3 => ?_)
      · rw [eT2, eN2, a2] at q
        rw [if_neg (by rw [q]; decide)] at hQ
        exact hQ true h2 hh2 f2' ⟨rfl, a2, by omega⟩
      · rw [eT2, eN2, a2] at q v3
        rw [if_pos q] at hQ
        refine tn_end _ rfl hh3 (hQ true h3 hh3 (frm_trans f2' f3) ⟨rfl, by omega, by omega⟩)
  · have e := cz2 e
    rw [if_neg (by rw [e]; decide)] at hQ
    exact hQ false h hh frm_refl ⟨rfl, rfl⟩
end PARSE
