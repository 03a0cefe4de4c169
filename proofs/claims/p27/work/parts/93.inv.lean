/-! The heap at the law's loop: its invariant at first. -/
theorem SHl_len : SHl.length = 127 := by decide +kernel
def slA (a : Nat) : Nat := match SHl[a]? with | some s => slen s | none => 0
theorem slA_s (a : Nat) (s) (e : SHl[a]? = some s) : slA a = slen s := by unfold slA; rw [e]
set_option maxRecDepth 20000 in
theorem HI_0 : HI hI0 := by
  have hs := mk2_eq.2
  have zb : ∀ a k, outB hI0 a k → hI0.2.1 a k = 0 ∧ hI0.2.2.1 a k = 0 ∧ hI0.2.2.2 a k = none := hI_ZB
  have inr : ∀ a k, a < 127 → k < slA a → cellOK hI0 a k = true := by
    intro a k ha hk
    exact List.all_eq_true.mp (List.all_eq_true.mp cells_ok a (List.mem_range.mpr ha)) k (List.mem_range.mpr hk)
  have out : ∀ a k, ¬ (a < 127 ∧ k < slA a) → outB hI0 a k := by
    intro a k hn
    unfold outB
    rw [hs]
    cases e : SHl[a]? with
    | none => trivial
    | some s =>
      have ha : a < 127 := by rw [← SHl_len]; exact (List.getElem?_eq_some_iff.mp e).1
      rw [slA_s a s e] at hn
      show slen s ≤ k
      omega
  have big : ∀ a, ¬ a < 127 → (IVT.getD a []) = [] ∧ (RFT.getD a []) = [] := by
    intro a ha
    have l1 : IVT.length = 127 := by decide +kernel
    have l2 : RFT.length = 127 := by decide +kernel
    exact ⟨by rw [List.getD_eq_getElem?_getD, List.getElem?_eq_none (by omega)]; rfl, by rw [List.getD_eq_getElem?_getD, List.getElem?_eq_none (by omega)]; rfl⟩
  refine ⟨hs, fun a k => ?_, fun a k hr => ?_⟩
  · by_cases h : a < 127 ∧ k < slA a
    · have := inr a k h.1 h.2
      unfold cellOK at this
      simp only [Bool.and_eq_true, decide_eq_true_eq] at this
      exact this.1
    · have ob : outB hI0 a k := out a k h
      have z := (zb a k ob).1
      rw [z, z0]
      by_cases ha : a < 127
      · have o := List.all_eq_true.mp outs_ok a (List.mem_range.mpr ha)
        unfold ivl
        cases e : SHl[a]? with
        | none => rw [e] at o; cases o
        | some s =>
          rw [e] at o
          rw [slA_s a s e] at h
          cases s with
          | inl q =>
            simp only [Bool.and_eq_true, decide_eq_true_eq] at o
            unfold ivl at o
            rw [e] at o
            exact o
          | inr c =>
            simp only [Bool.and_eq_true, decide_eq_true_eq] at o
            have hk : vwN c ≤ k := by
              have : ¬ k < slen (.inr c) := fun q => h ⟨ha, q⟩
              show slen (.inr c) ≤ k
              omega
            show (((IVT.getD a []).getD k fI).1 : Int) ≤ 0 ∧ (0 : Int) ≤ ((IVT.getD a []).getD k fI).2
            rw [List.getD_eq_getElem?_getD (l := IVT.getD a []), List.getElem?_eq_none (by omega)]
            exact ⟨by decide, by decide⟩
      · unfold ivl
        rw [(big a ha).1]
        exact ⟨by show (-2147483648 : Int) ≤ 0; decide, by show (0 : Int) ≤ 2147483647; decide⟩
  · by_cases h : a < 127 ∧ k < slA a
    · have := inr a k h.1 h.2
      unfold cellOK at this
      simp only [Bool.and_eq_true, Bool.or_eq_true, decide_eq_true_eq, List.isEmpty_iff, List.any_eq_true] at this
      rcases this.2 with q | ⟨b, b1, b2⟩
      · exact absurd q hr
      · exact ⟨b, b1, b2⟩
    · exfalso
      apply hr
      unfold rst
      by_cases ha : a < 127
      · have o := List.all_eq_true.mp outs_ok a (List.mem_range.mpr ha)
        cases e : SHl[a]? with
        | none => rw [e] at o; cases o
        | some s =>
          rw [e] at o
          rw [slA_s a s e] at h
          cases s with
          | inl q =>
            obtain ⟨t, n⟩ := q
            have hk : ¬ k < n := fun q => h ⟨ha, q⟩
            simp only
            rw [if_neg hk]
          | inr c =>
            simp only [Bool.and_eq_true, decide_eq_true_eq] at o
            have hk : vwN c ≤ k := by
              have : ¬ k < slen (.inr c) := fun q => h ⟨ha, q⟩
              show slen (.inr c) ≤ k
              omega
            simp only
            rw [List.getD_eq_getElem?_getD (l := RFT.getD a []), List.getElem?_eq_none (by omega)]
            rfl
      · have : SHl[a]? = none := List.getElem?_eq_none (by rw [SHl_len]; omega)
        rw [this]
        simp only
        rw [(big a ha).2]
        rfl
def cellsAre (h : Hp) (l : List (Nat × Nat × Int)) : Bool := l.all (fun q => decide ((h.2.1 q.1 q.2.1).toInt = q.2.2))
theorem cells_0 : cellsAre hI0 [(1, 0, 0), (9, 0, 0), (0, 2, 0), (93, 0, 0), (93, 46, 0), (93, 44, 0), (93, 9, 0), (93, 10, -1), (93, 45, -1), (93, 30, -1), (93, 32, 0), (93, 1, 0), (93, 47, 0), (93, 27, 0), (93, 28, -1)] = true := by decide +kernel
theorem refs_0 : ((List.range 6).all (fun i => decide (hI0.2.2.2 56 i = some (57 + i)) && decide (hI0.2.2.2 38 i = some (63 + 5 * i)))) = true := by decide +kernel
