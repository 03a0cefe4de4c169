/-! What holds at every pass of the law's loop. -/
def INV (h : Hp) : Prop := HI h ∧ J1.1 h ∧ h.2.1 93 32 = 0 ∧ (h.2.1 93 1).toInt ≤ 999 ∧ (h.2.1 93 47).toInt ≤ 999 ∧ RX h ∧ h.2.1 1 0 = h.2.1 93 0 ∧ h.2.1 9 0 = h.2.1 93 46 ∧ h.2.1 0 2 = h.2.1 93 44
theorem ar_0 {h : Hp} {l : List (Nat × Nat × Int)} (hc : cellsAre h l = true) {a k : Nat} {v : Int} (hm : (a, k, v) ∈ l) : (h.2.1 a k).toInt = v := of_decide_eq_true (List.all_eq_true.mp hc _ hm)
theorem refs_1 : RX hI0 := by
  have := refs_0
  refine ⟨fun i hi => ?_, fun i hi => ?_⟩
  · have t := List.all_eq_true.mp this i (List.mem_range.mpr hi)
    rw [Bool.and_eq_true] at t
    exact of_decide_eq_true t.1
  · have t := List.all_eq_true.mp this i (List.mem_range.mpr hi)
    rw [Bool.and_eq_true] at t
    exact of_decide_eq_true t.2
theorem INV_0 : INV hI0 := by
  have c := cells_0
  have y0 : (hI0.2.1 93 9).toInt = 0 := ar_0 c (by simp)
  have y1 : (hI0.2.1 93 10).toInt = -1 := ar_0 c (by simp)
  have y2 : (hI0.2.1 93 45).toInt = -1 := ar_0 c (by simp)
  have f0 : (hI0.2.1 93 30).toInt = -1 := ar_0 c (by simp)
  have eq : ∀ {a k b j : Nat}, (hI0.2.1 a k).toInt = 0 → (hI0.2.1 b j).toInt = 0 → hI0.2.1 a k = hI0.2.1 b j := fun p q => Int32.toInt_inj.mp (by rw [p, q])
  refine ⟨HI_0, ⟨⟨by rw [y1, y0]; decide, by rw [y2, y0]; decide, fun f cc hf hc => ?_⟩, f0⟩, ?_, ?_, ?_, refs_1, eq (ar_0 c (by simp)) (ar_0 c (by simp)), eq (ar_0 c (by simp)) (ar_0 c (by simp)), eq (ar_0 c (by simp)) (ar_0 c (by simp))⟩
  · exfalso
    rw [y0] at hf
    omega
  · exact Int32.toInt_inj.mp (by rw [ar_0 c (v := 0) (by simp)]; rfl)
  · rw [ar_0 c (v := 0) (by simp)]; decide
  · rw [ar_0 c (v := 0) (by simp)]; decide
