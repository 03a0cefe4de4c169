/-! What holds at every pass of the law's loop. -/
def INV (h : Hp) : Prop := HI h ∧ J1.1 h ∧ h.2.1 93 32 = 0 ∧ (h.2.1 93 1).toInt ≤ 999 ∧ (h.2.1 93 47).toInt ≤ 999 ∧ RX h ∧ h.2.1 1 0 = h.2.1 93 0 ∧ h.2.1 9 0 = h.2.1 93 46 ∧ h.2.1 0 2 = h.2.1 93 44
theorem ar_0 {h : Hp} {l : List (Nat × Nat × Int)} (hc : cellsAre h l = true) {a k : Nat} {v : Int} (hm : (a, k, v) ∈ l) : (h.2.1 a k).toInt = v := of_decide_eq_true (List.all_eq_true.mp hc _ hm)
theorem refs_1 : RX hI0 := by
  have := refs_0
  refine ⟨fun i hi => ?_, fun i hi => ?_⟩
  · have t := List.all_eq_true.mp this i (List.mem_range.mpr hi)
    rw [Bool.and_eq_true] at t
    exact of_decide_eq_true t.1
  · have t := List.all_eq_true.mp this i (List.mem_range.mpr hi)
    rw [Bool.and_eq_true] at t
    exact of_decide_eq_true t.2
theorem INV_0 : INV hI0 := by
  have c := cells_0
  have y0 : (hI0.2.1 93 9).toInt = 0 := ar_0 c (by simp)
  have y1 : (hI0.2.1 93 10).toInt = -1 := ar_0 c (by simp)
  have y2 : (hI0.2.1 93 45).toInt = -1 := ar_0 c (by simp)
  have f0 : (hI0.2.1 93 30).toInt = -1 := ar_0 c (by simp)
  have eq : ∀ {a k b j : Nat}, (hI0.2.1 a k).toInt = 0 → (hI0.2.1 b j).toInt = 0 → hI0.2.1 a k = hI0.2.1 b j := fun p q => Int32.toInt_inj.mp (by rw [p, q])
  refine ⟨HI_0, ⟨⟨by rw [y1, y0]; decide, by rw [y2, y0]; decide, fun f cc hf hc => ?_⟩, f0⟩, ?_, ?_, ?_, refs_1, eq (ar_0 c (by simp)) (ar_0 c (by simp)), eq (ar_0 c (by simp)) (ar_0 c (by simp)), eq (ar_0 c (by simp)) (ar_0 c (by simp))⟩
  · exfalso
    rw [y0] at hf
    omega
  · exact Int32.toInt_inj.mp (by rw [ar_0 c (v := 0) (by simp)]; rfl)
  · rw [ar_0 c (v := 0) (by simp)]; decide
  · rw [ar_0 c (v := 0) (by simp)]; decide
/-- all cells it speaks of -/
def SUPI : List (Nat × Nat) := [(93, 9), (93, 10), (93, 45), (101, 999), (104, 999), (105, 999), (106, 999), (93, 30), (93, 32), (93, 1), (93, 47), (1, 0), (93, 0), (9, 0), (93, 46), (0, 2), (93, 44), (56, 999), (38, 999)]
theorem supi1 {a k : Nat} (h : inW SUP1 a k = true) : inW SUPI a k = true := by
  have : SUPI = SUP1 ++ [(93, 32), (93, 1), (93, 47), (1, 0), (93, 0), (9, 0), (93, 46), (0, 2), (93, 44), (56, 999), (38, 999)] := rfl
  unfold inW at h ⊢
  rw [this, List.any_append, h]
  rfl
theorem INV_fr {W : List (Nat × Nat)} {h h' : Hp} (hd : disW SUPI W = true) (hh : HI h') (hf : frm W h h') (hi : INV h) : INV h' := by
  obtain ⟨-, j1, g, s, q, ⟨x1, x2⟩, r1, r2, r3⟩ := hi
  have e : ∀ a k, inW SUPI a k = true → h'.2.1 a k = h.2.1 a k := fun a k hs => (hf a k (dis_in hd hs)).1
  have er : ∀ a k, inW SUPI a k = true → h'.2.2.2 a k = h.2.2.2 a k := fun a k hs => (hf a k (dis_in hd hs)).2.2
  refine ⟨hh, JS1 h h' (fun a k q => e a k (supi1 q)) j1, by rw [e 93 32 rfl]; exact g, by rw [e 93 1 rfl]; exact s, by rw [e 93 47 rfl]; exact q, ⟨fun i hi => ?_, fun i hi => ?_⟩, ?_, ?_, ?_⟩
  · rw [er 56 i (by simp [inW, SUPI])]; exact x1 i hi
  · rw [er 38 i (by simp [inW, SUPI])]; exact x2 i hi
  · rw [e 1 0 rfl, e 93 0 rfl]; exact r1
  · rw [e 9 0 rfl, e 93 46 rfl]; exact r2
  · rw [e 0 2 rfl, e 93 44 rfl]; exact r3
