/-! The order, exactly. -/
def posL (h : Hp) (l : List Int32) (p : Int32) : Nat := (l.takeWhile (fun a => aheadM h a p)).length
def stepL (h : Hp) (l : List Int32) (p : Int32) : List Int32 := if (runM h p && !decide (p.toInt = (h.2.1 93 30).toInt)) = true then ins l (posL h l p) p else l
/-- the row behind the first n of the people -/
def layL (h : Hp) : Nat → List Int32
  | 0 => []
  | n + 1 => stepL h (layL h n) (Int32.ofNat n)
def idxL (h : Hp) (l : List Int32) : Nat := (l.takeWhile (fun a => !decide (a.toInt = (h.2.1 93 31).toInt))).length
/-- the whole row -/
def layM (h : Hp) : List Int32 := if 0 ≤ (h.2.1 93 30).toInt then ins (layL h (h.2.1 93 0).toInt.toNat) (idxL h (layL h (h.2.1 93 0).toInt.toNat) + 1) (h.2.1 93 30) else layL h (h.2.1 93 0).toInt.toNat
theorem twl_le {α : Type} (f : α → Bool) (l : List α) : (l.takeWhile f).length ≤ l.length := by
  induction l with
  | nil => simp
  | cons a l ih =>
    rw [List.takeWhile_cons]
    split <;> simp
    exact ih
theorem twl {f : Int32 → Bool} : ∀ {l : List Int32} {k : Nat}, (∀ j, j < k → f (l.getD j 0) = true) → k ≤ l.length → (k = l.length ∨ f (l.getD k 0) = false) → (l.takeWhile f).length = k
  | [], k, _, hk, _ => by simp at hk; simp [hk]
  | a :: l, 0, _, _, h => by
    rcases h with h | h
    · simp at h
    · have h : f a = false := h
      simp [List.takeWhile_cons, h]
  | a :: l, k + 1, h1, hk, h2 => by
    have ha : f a = true := h1 0 (by omega)
    rw [List.takeWhile_cons, if_pos ha, List.length_cons, twl (l := l) (k := k) (fun j hj => by have := h1 (j + 1) (by omega); simpa using this) (by simpa using hk) (by simpa using h2)]
theorem posL_le (h : Hp) (l : List Int32) (p : Int32) : posL h l p ≤ l.length := twl_le _ _
theorem stepL_len (h : Hp) (l : List Int32) (p : Int32) : (stepL h l p).length ≤ l.length + 1 := by
  unfold stepL
  split
  · rw [ins_len (posL_le h l p)]
    exact Nat.le_refl _
  · omega
theorem layL_len (h : Hp) : ∀ n, (layL h n).length ≤ n
  | 0 => Nat.le_refl _
  | n + 1 => Nat.le_trans (stepL_len h _ _) (Nat.succ_le_succ (layL_len h n))
theorem ofn {x : Int32} {n : Nat} (h : x.toInt = n) : Int32.ofNat n = x := by
  have hb := i32r x
  simp only [fI] at hb
  apply Int32.toInt.inj
  rw [h, Int32.toInt_ofNat_of_lt (by omega)]
theorem mem_ins {l : List Int32} {k : Nat} {p a : Int32} : a ∈ ins l k p ↔ a ∈ l ∨ a = p := by
  unfold ins
  conv => rhs; rw [← List.take_append_drop k l]
  simp only [List.mem_append, List.mem_cons]
  constructor
  · rintro (q | q | q)
    · exact Or.inl (Or.inl q)
    · exact Or.inr q
    · exact Or.inl (Or.inr q)
  · rintro ((q | q) | q)
    · exact Or.inl q
    · exact Or.inr (Or.inr q)
    · exact Or.inr (Or.inl q)
theorem mem_layL (h : Hp) : ∀ (n : Nat) (a : Int32), a ∈ layL h n ↔ ∃ i, i < n ∧ a = Int32.ofNat i ∧ runM h a = true ∧ ¬ a.toInt = (h.2.1 93 30).toInt
  | 0, a => by simp [layL]
  | n + 1, a => by
    have ih := mem_layL h n a
    rw [layL]
    unfold stepL
    split
    · rename_i hc
      simp only [Bool.and_eq_true, Bool.not_eq_true', decide_eq_false_iff_not] at hc
      rw [mem_ins, ih]
      constructor
      · rintro (⟨i, h1, h2⟩ | h1)
        · exact ⟨i, by omega, h2⟩
        · subst h1
          exact ⟨n, by omega, rfl, hc.1, hc.2⟩
      · rintro ⟨i, h1, h2, h3⟩
        by_cases e : i = n
        · subst e
          exact Or.inr h2
        · exact Or.inl ⟨i, by omega, h2, h3⟩
    · rename_i hc
      rw [ih]
      constructor
      · rintro ⟨i, h1, h2⟩
        exact ⟨i, by omega, h2⟩
      · rintro ⟨i, h1, h2, h3, h4⟩
        by_cases e : i = n
        · subst e
          exfalso
          rw [h2] at h3 h4
          apply hc
          simp only [Bool.and_eq_true, Bool.not_eq_true', decide_eq_false_iff_not]
          exact ⟨h3, h4⟩
        · exact ⟨i, by omega, h2, h3, h4⟩
theorem el_rng {h : Hp} (hh : HI h) {l : List Int32} (ho : OL h l) {j : Nat} (hj : j < l.length) : 0 ≤ (l.getD j 0).toInt ∧ (l.getD j 0).toInt ≤ 6 := by
  rw [← ho.2 j hj]
  exact HI.iv hh 110 j (r := (0, 6)) rfl
section LAY
variable {X : Scr} {dp : Nat} {h0 : Hp} {Q : Option Value → Hp → Prop}
theorem fr_run {h : Hp} (hf : frm WO h0 h) (p : Int32) : runM h p = runM h0 p := by unfold runM; rw [frI hf rfl, frI hf rfl]
theorem fr_ahead {h : Hp} (hf : frm WO h0 h) (a b : Int32) : aheadM h a b = aheadM h0 a b := by
  unfold aheadM waitM
  rw [frI hf rfl, frI hf rfl, frI hf rfl, frI hf rfl]
theorem lay_in (p : Int32) (pn : Nat) (l : List Int32) (hp : p.toInt = pn) (hp2 : pn ≤ 6) (hl : l.length ≤ 6) (hrun : runM h0 p = true) (hnf : ¬ p.toInt = (h0.2.1 93 30).toInt)
    (hQ : ∀ (h' : Hp) (p1 : Int32) (v : Value), HI h' → frm WO h0 h' → p1.toInt = ((pn + 1 : Nat) : Int) → OL h' (stepL h0 l p) → Ends X (dp + 1 + 1) 154 7 [.ref 93, .int p1, v] [] h' Q) :
    ∀ (m kn : Nat) (k : Int32) (h : Hp), HI h → frm WO h0 h → OL h l → k.toInt = kn → kn + m = l.length → (∀ j, j < kn → aheadM h0 (l.getD j 0) p = true) →
    Ends X (dp + 1 + 1) 154 36 [.ref 93, .int p, .int k] [] h Q
  | m, kn, k, h, hh, hf, ho, hk, hm, ha => by
    have hst : ∀ kn', posL h0 l p = kn' → stepL h0 l p = ins l kn' p := by
      intro kn' e
      unfold stepL
      rw [hrun, decide_eq_false hnf, e]
      rfl
    have hp1 : (p + 1).toInt = ((pn + 1 : Nat) : Int) := by rw [i_add (by rw [i1]; omega) (by rw [i1]; omega), i1]; omega
    have done : ∀ h2, HI h2 → frm WO h0 h2 → OL h2 l → posL h0 l p = kn → Ends X (dp + 1) 153 0 [.ref 93, .int p, .int k, .retAddr 0] [] h2 (fun rv h3 => rv = none ∧ HS h3 ∧ Ends X (dp + 1 + 1) 154 7 [.ref 93, .int (p + 1), .int k] [] h3 Q) := by
      intro h2 a1 a2 a3 a4
      refine put_ok p k kn l hk (by omega) hl (by omega) (by omega) a1 a3 (fun h3 b1 b2 b3 => ⟨rfl, b1.hs, ?_⟩)
      exact hQ h3 (p + 1) _ b1 (frm_trans a2 b2) hp1 (by rw [hst kn a4]; exact b3)
    refine w_lo36 p k hh.hs ⟨fun e => ?_, fun e => ?_⟩
    · have e : (h.2.1 93 34).toInt ≤ k.toInt := of_decide_eq_true (cI e)
      rw [ho.1] at e
      exact done h hh hf ho (twl ha (by omega) (Or.inl (by omega)))
    · have e : ¬ (h.2.1 93 34).toInt ≤ k.toInt := of_decide_eq_false (cI e)
      rw [ho.1] at e
      have hkk : k.toNatClampNeg = kn := by show k.toInt.toNat = _; omega
      have hv : h.2.1 110 k.toNatClampNeg = l.getD kn 0 := by rw [hkk]; exact ho.2 kn (by omega)
      have hr := el_rng hh ho (show kn < l.length by omega)
      rw [hv]
      refine ⟨inB_iff (by omega) (by omega), ahead_ok (l.getD kn 0) p hh.hs hr.1 hr.2 (by omega) (by omega) ⟨_, rfl, hh.hs, fun e2 => ?_, fun e2 => ?_⟩⟩
      · have e2 : (b2i (aheadM h (l.getD kn 0) p)).toInt = 0 := of_decide_eq_true (cI e2)
        rw [b2i_z, fr_ahead hf] at e2
        exact done h hh hf ho (twl ha (by omega) (Or.inr e2))
      · have e2 : ¬ (b2i (aheadM h (l.getD kn 0) p)).toInt = 0 := of_decide_eq_false (cI e2)
        rw [b2i_z, fr_ahead hf, Bool.not_eq_false] at e2
        have hk1 : (k + 1).toInt = ((kn + 1 : Nat) : Int) := by rw [i_add (by rw [i1]; omega) (by rw [i1]; omega), i1]; omega
        match m, hm with
        | 0, hm => omega
        | m + 1, hm =>
          refine lay_in p pn l hp hp2 hl hrun hnf hQ m (kn + 1) (k + 1) h hh hf ho hk1 (by omega) (fun j hj => ?_)
          by_cases c : j = kn
          · rw [c]; exact e2
          · exact ha j (by omega)
theorem lay_last (l : List Int32) (hf0 : 0 ≤ (h0.2.1 93 30).toInt) (hf1 : (h0.2.1 93 30).toInt ≤ 6) (hl : l.length ≤ 6)
    (hQ : ∀ h', HI h' → frm WO h0 h' → OL h' (ins l (idxL h0 l + 1) (h0.2.1 93 30)) → Q none h') :
    ∀ (m kn : Nat) (k : Int32) (v : Value) (h : Hp), HI h → frm WO h0 h → OL h l → k.toInt = kn → kn + m = l.length → (∃ j, kn ≤ j ∧ j < l.length ∧ (l.getD j 0).toInt = (h0.2.1 93 31).toInt) → (∀ j, j < kn → ¬ (l.getD j 0).toInt = (h0.2.1 93 31).toInt) →
    Ends X (dp + 1) 154 86 [.ref 93, .int k, v] [] h Q
  | m, kn, k, v, h, hh, hf, ho, hk, hm, ⟨j, j1, j2, j3⟩, hno => by
    have hkk : k.toNatClampNeg = kn := by show k.toInt.toNat = _; omega
    have hv : h.2.1 110 k.toNatClampNeg = l.getD kn 0 := by rw [hkk]; exact ho.2 kn (by omega)
    have hk1 : (k + 1).toInt = ((kn + 1 : Nat) : Int) := by rw [i_add (by rw [i1]; omega) (by rw [i1]; omega), i1]; omega
    refine w_lo86 k v hh.hs ⟨inB_iff (by omega) (by omega), fun e => ?_, fun e => ?_⟩
    · rw [hv, frI hf rfl] at e
      have e : (l.getD kn 0).toInt = (h0.2.1 93 31).toInt := of_decide_eq_true (cI e)
      have hx : idxL h0 l = kn := twl (fun i hi => by rw [decide_eq_false (hno i hi)]; rfl) (by omega) (Or.inr (by rw [decide_eq_true e]; rfl))
      rw [frI hf rfl]
      refine put_ok _ _ (kn + 1) l hk1 (by omega) hl hf0 hf1 hh ho (fun h3 b1 b2 b3 => ⟨rfl, b1.hs, ?_⟩)
      exact hQ h3 b1 (frm_trans hf b2) (by rw [hx]; exact b3)
    · rw [hv, frI hf rfl] at e
      have e : ¬ (l.getD kn 0).toInt = (h0.2.1 93 31).toInt := of_decide_eq_false (cI e)
      match m, hm with
      | 0, hm => omega
      | m + 1, hm =>
        refine lay_last l hf0 hf1 hl hQ m (kn + 1) (k + 1) v h hh hf ho hk1 (by omega) ⟨j, ?_, j2, j3⟩ (fun i hi => ?_)
        · by_cases c : j = kn
          · rw [c] at j3; exact absurd j3 e
          · omega
        · by_cases c : i = kn
          · rw [c]; exact e
          · exact hno i (by omega)
/-- who is to be followed stands in the row -/
def FOL (h : Hp) : Prop := 0 ≤ (h.2.1 93 30).toInt → (h.2.1 93 30).toInt < (h.2.1 93 0).toInt ∧ 0 ≤ (h.2.1 93 31).toInt ∧ (h.2.1 93 31).toInt < (h.2.1 93 0).toInt ∧ runM h (h.2.1 93 31) = true ∧ ¬ (h.2.1 93 31).toInt = (h.2.1 93 30).toInt
theorem lay_len6 {h : Hp} (hp : (h.2.1 93 0).toInt ≤ 7) (hf0 : 0 ≤ (h.2.1 93 30).toInt) (hf1 : (h.2.1 93 30).toInt < (h.2.1 93 0).toInt) : ∀ n : Nat, (layL h n).length + (if (h.2.1 93 30).toInt < n then 1 else 0) ≤ n
  | 0 => by
    have : ¬ (h.2.1 93 30).toInt < (0 : Nat) := by omega
    rw [if_neg this]
    exact Nat.le_refl _
  | n + 1 => by
    have ih := lay_len6 hp hf0 hf1 n
    have h1 := stepL_len h (layL h n) (Int32.ofNat n)
    rw [layL]
    by_cases c : (h.2.1 93 30).toInt = n
    · have : stepL h (layL h n) (Int32.ofNat n) = layL h n := by
        unfold stepL
        rw [ofn c, decide_eq_true rfl]
        simp
      rw [this]
      split at ih <;> split <;> omega
    · split at ih <;> split <;> omega
theorem lay_loop (hF : FOL h0)
    (hQ : ∀ h', HI h' → frm WO h0 h' → OL h' (layM h0) → Q none h') :
    ∀ (m pn : Nat) (p : Int32) (v : Value) (h : Hp), HI h → frm WO h0 h → OL h (layL h0 pn) → p.toInt = pn → pn + m = (h0.2.1 93 0).toInt.toNat →
    Ends X (dp + 1 + 1) 154 7 [.ref 93, .int p, v] [] h Q
  | m, pn, p, v, h, hh, hf, ho, hp, hm => by
    have hpe := HI.iv hh 93 0 (r := (0, 7)) rfl
    have hfo := HI.iv hh 93 30 (r := (-1, 6)) rfl
    rw [frI hf rfl] at hpe hfo
    simp only at hpe hfo
    refine w_lo7 p v hh.hs ⟨fun e => ⟨fun e2 => ?_, fun e2 => ?_⟩, fun e => ?_⟩
    · rw [frI hf rfl] at e e2
      have e : (h0.2.1 93 0).toInt ≤ p.toInt := of_decide_eq_true (cI e)
      have e2 : 0 ≤ (h0.2.1 93 30).toInt := of_decide_eq_true (cI e2)
      obtain ⟨f1, f2, f3, f4, f5⟩ := hF e2
      have hpn : pn = (h0.2.1 93 0).toInt.toNat := by omega
      have hl6 := lay_len6 (h := h0) hpe.2 e2 f1 pn
      rw [if_pos (by omega)] at hl6
      have hmem : h0.2.1 93 31 ∈ layL h0 pn := by
        rw [mem_layL]
        exact ⟨(h0.2.1 93 31).toInt.toNat, by omega, (ofn (by omega)).symm, f4, f5⟩
      obtain ⟨j, hj, hje⟩ := List.getElem_of_mem hmem
      have hM : layM h0 = ins (layL h0 pn) (idxL h0 (layL h0 pn) + 1) (h0.2.1 93 30) := by
        unfold layM
        rw [if_pos e2, ← hpn]
      rw [hM] at hQ
      refine lay_last (layL h0 pn) e2 hfo.2 (by omega) hQ (layL h0 pn).length 0 0 v h hh hf ho rfl (by omega) ⟨j, by omega, hj, ?_⟩ (fun i hi => by omega)
      rw [List.getD_eq_getElem?_getD, List.getElem?_eq_getElem hj, hje]
      rfl
    · rw [frI hf rfl] at e e2
      have e : (h0.2.1 93 0).toInt ≤ p.toInt := of_decide_eq_true (cI e)
      have e2 : ¬ 0 ≤ (h0.2.1 93 30).toInt := of_decide_eq_false (cI e2)
      have hpn : pn = (h0.2.1 93 0).toInt.toNat := by omega
      refine hQ h hh hf ?_
      unfold layM
      rw [if_neg e2, ← hpn]
      exact ho
    · rw [frI hf rfl] at e
      have e : ¬ (h0.2.1 93 0).toInt ≤ p.toInt := of_decide_eq_false (cI e)
      match m, hm with
      | 0, hm => omega
      | m + 1, hm =>
        have hp1 : (p + 1).toInt = ((pn + 1 : Nat) : Int) := by rw [i_add (by rw [i1]; omega) (by rw [i1]; omega), i1]; omega
        have hlen := layL_len h0 pn
        have nx : ∀ h' p1 (v' : Value), HI h' → frm WO h0 h' → p1.toInt = ((pn + 1 : Nat) : Int) → OL h' (stepL h0 (layL h0 pn) p) → Ends X (dp + 1 + 1) 154 7 [.ref 93, .int p1, v'] [] h' Q := by
          intro h' p1 v' a1 a2 a3 a4
          refine lay_loop hF hQ m (pn + 1) p1 v' h' a1 a2 ?_ a3 (by omega)
          rw [layL, ofn hp]
          exact a4
        refine run_ok p hh.hs ⟨_, rfl, hh.hs, fun e2 => ?_, fun e2 => ⟨fun e3 => ?_, fun e3 => ?_⟩⟩
        · have e2 : (b2i (runM h p)).toInt = 0 := of_decide_eq_true (cI e2)
          rw [b2i_z, fr_run hf] at e2
          refine nx h (p + 1) v hh hf hp1 ?_
          unfold stepL
          rw [e2]
          exact ho
        · have e2 : ¬ (b2i (runM h p)).toInt = 0 := of_decide_eq_false (cI e2)
          rw [b2i_z, fr_run hf, Bool.not_eq_false] at e2
          rw [frI hf rfl] at e3
          have e3 : ¬ p.toInt = (h0.2.1 93 30).toInt := of_decide_eq_true (cI e3)
          exact lay_in p pn (layL h0 pn) hp (by omega) (by omega) e2 e3 nx (layL h0 pn).length 0 0 h hh hf ho rfl (by omega) (fun j hj => by omega)
        · have e2 : ¬ (b2i (runM h p)).toInt = 0 := of_decide_eq_false (cI e2)
          rw [frI hf rfl] at e3
          have e3 : ¬ ¬ p.toInt = (h0.2.1 93 30).toInt := of_decide_eq_false (cI e3)
          refine nx h (p + 1) v hh hf hp1 ?_
          unfold stepL
          rw [decide_eq_true (Decidable.not_not.mp e3)]
          simpa using ho
end LAY
theorem lay_ok {X : Scr} {dp : Nat} {h : Hp} {Q : Option Value → Hp → Prop} (hh : HI h) (hF : FOL h) (hQ : ∀ h', HI h' → frm WO h h' → OL h' (layM h) → Q none h') : Ends X (dp + 1 + 1) 154 0 [.ref 93, .retAddr 0, .retAddr 0] [] h Q := by
  have hpe := HI.iv hh 93 0 (r := (0, 7)) rfl
  simp only at hpe
  refine w_lo0 hh.hs ?_
  refine lay_loop (h0 := h) hF hQ (h.2.1 93 0).toInt.toNat 0 0 _ _ (HI_put hh (by show (0 : Int) ≤ 0; decide) (by show (0 : Int) ≤ 7; decide)) (frm_put frm_refl rfl) ⟨?_, fun j hj => by simp [layL] at hj⟩ rfl (by omega)
  rw [put_at]
  rfl
