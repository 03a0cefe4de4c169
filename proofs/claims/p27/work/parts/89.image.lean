/-! image and undo of the reference, exactly. -/
theorem HI_cp {h : Hp} {a b k j : Nat} (hh : HI h) (he : ivl a k = ivl b j) : HI (hpI h a k (h.2.1 b j)) := by
  have := hh.2.1 b j
  rw [← he] at this
  exact HI_put hh this.1 this.2
/-- what the image keeps of single cells -/
def KIm (h0 h : Hp) : Prop := h.2.1 93 44 = 1 ∧ h.2.1 93 45 = h0.2.1 93 10 ∧ h.2.1 93 46 = h0.2.1 93 0 ∧ h.2.1 93 47 = h0.2.1 93 1 ∧ h.2.1 93 48 = h0.2.1 93 2 ∧ h.2.1 93 49 = h0.2.1 93 41 ∧ h.2.1 93 50 = h0.2.1 93 42
def KUn (h0 h : Hp) : Prop := h.2.1 93 10 = h0.2.1 93 45 ∧ h.2.1 93 0 = h0.2.1 93 46 ∧ h.2.1 93 1 = h0.2.1 93 47 ∧ h.2.1 93 2 = h0.2.1 93 48 ∧ h.2.1 93 41 = h0.2.1 93 49 ∧ h.2.1 93 42 = h0.2.1 93 50
def Wmig : List (Nat × Nat) := [(93, 44), (93, 45), (93, 46), (93, 47), (93, 48), (93, 49), (93, 50), (115, 999), (116, 999), (117, 999), (118, 999), (119, 999), (120, 999), (121, 999)]
theorem Wmig_115 {k : Nat} : inW Wmig 115 k = true := by simp [inW, Wmig]
theorem Wmig_116 {k : Nat} : inW Wmig 116 k = true := by simp [inW, Wmig]
theorem Wmig_117 {k : Nat} : inW Wmig 117 k = true := by simp [inW, Wmig]
theorem Wmig_118 {k : Nat} : inW Wmig 118 k = true := by simp [inW, Wmig]
theorem Wmig_119 {k : Nat} : inW Wmig 119 k = true := by simp [inW, Wmig]
theorem Wmig_120 {k : Nat} : inW Wmig 120 k = true := by simp [inW, Wmig]
theorem Wmig_121 {k : Nat} : inW Wmig 121 k = true := by simp [inW, Wmig]
section
variable {X : Scr} {dp : Nat} {h0 : Hp} {Q : Option Value → Hp → Prop}
theorem mig3 (hQ : ∀ h', HI h' → frm Wmig h0 h' → KIm h0 h' → (∀ j, j < 12 → h'.2.1 121 j = h0.2.1 114 j) → (∀ j, j < 28 → h'.2.1 120 j = h0.2.1 99 j) → (∀ j, j < 7 → h'.2.1 115 j = h0.2.1 94 j) → (∀ j, j < 7 → h'.2.1 116 j = h0.2.1 95 j) → (∀ j, j < 7 → h'.2.1 117 j = h0.2.1 96 j) → (∀ j, j < 7 → h'.2.1 118 j = h0.2.1 97 j) → (∀ j, j < 7 → h'.2.1 119 j = h0.2.1 98 j) → Q (some (.int (h'.2.1 93 0))) h') :
    ∀ (m pn : Nat) (p : Int32) (h : Hp), HI h → frm Wmig h0 h → p.toInt = pn → pn + m = 12 → KIm h0 h → (∀ j, j < pn → h.2.1 121 j = h0.2.1 114 j) → (∀ j, j < 28 → h.2.1 120 j = h0.2.1 99 j) → (∀ j, j < 7 → h.2.1 115 j = h0.2.1 94 j) → (∀ j, j < 7 → h.2.1 116 j = h0.2.1 95 j) → (∀ j, j < 7 → h.2.1 117 j = h0.2.1 96 j) → (∀ j, j < 7 → h.2.1 118 j = h0.2.1 97 j) → (∀ j, j < 7 → h.2.1 119 j = h0.2.1 98 j) →
    Ends X dp 184 155 [.ref 93, .int p] [] h Q
  | m, pn, p, h, hh, hf, hp, hm, k0, kB, kR, z0, z1, z2, z3, z4 => by
    have i12 : (12 : Int32).toInt = 12 := rfl
    refine w_mimage3 p hh.hs ⟨fun e => ?_, fun e => ?_⟩
    all_goals have e := cI e
    all_goals simp only [cndI, i12, decide_eq_true_eq, decide_eq_false_iff_not] at e
    · exact hQ h hh hf k0 (fun j hj => kB j (by omega)) kR z0 z1 z2 z3 z4
    · match m, hm with
      | 0, hm => omega
      | m + 1, hm =>
        have hp1 : (p + 1).toInt = ((pn + 1 : Nat) : Int) := by rw [i_add (by rw [i1]; omega) (by rw [i1]; omega), i1]; omega
        generalize p + 1 = p1 at hp1 ⊢
        have q : p.toNatClampNeg = pn := by show p.toInt.toNat = _; omega
        have i : inB p 12 = true := inB_iff (by omega) (by omega)
        refine ⟨i, i, ?_⟩
        rw [q]
        refine mig3 hQ m (pn + 1) p1 _ (HI_cp hh rfl) (frm_put hf Wmig_121) hp1 (by omega) (by simpa [KIm, put_ne] using k0) (fun j hj => ?_) (fun j hj => by rw [put_ne (by omega)]; exact kR j hj) (fun j hj => by rw [put_ne (by omega)]; exact z0 j hj) (fun j hj => by rw [put_ne (by omega)]; exact z1 j hj) (fun j hj => by rw [put_ne (by omega)]; exact z2 j hj) (fun j hj => by rw [put_ne (by omega)]; exact z3 j hj) (fun j hj => by rw [put_ne (by omega)]; exact z4 j hj)
        rw [put_if]
        split
        · rename_i c
          rw [c]
          exact frI hf rfl
        · exact kB j (by omega)
theorem mig2 (hQ : ∀ h', HI h' → frm Wmig h0 h' → KIm h0 h' → (∀ j, j < 12 → h'.2.1 121 j = h0.2.1 114 j) → (∀ j, j < 28 → h'.2.1 120 j = h0.2.1 99 j) → (∀ j, j < 7 → h'.2.1 115 j = h0.2.1 94 j) → (∀ j, j < 7 → h'.2.1 116 j = h0.2.1 95 j) → (∀ j, j < 7 → h'.2.1 117 j = h0.2.1 96 j) → (∀ j, j < 7 → h'.2.1 118 j = h0.2.1 97 j) → (∀ j, j < 7 → h'.2.1 119 j = h0.2.1 98 j) → Q (some (.int (h'.2.1 93 0))) h') :
    ∀ (m pn : Nat) (p : Int32) (h : Hp), HI h → frm Wmig h0 h → p.toInt = pn → pn + m = 28 → KIm h0 h → (∀ j, j < pn → h.2.1 120 j = h0.2.1 99 j) → (∀ j, j < 7 → h.2.1 115 j = h0.2.1 94 j) → (∀ j, j < 7 → h.2.1 116 j = h0.2.1 95 j) → (∀ j, j < 7 → h.2.1 117 j = h0.2.1 96 j) → (∀ j, j < 7 → h.2.1 118 j = h0.2.1 97 j) → (∀ j, j < 7 → h.2.1 119 j = h0.2.1 98 j) →
    Ends X dp 184 129 [.ref 93, .int p] [] h Q
  | m, pn, p, h, hh, hf, hp, hm, k0, kR, z0, z1, z2, z3, z4 => by
    have i28 : (28 : Int32).toInt = 28 := rfl
    refine w_mimage2 p hh.hs ⟨fun e => ?_, fun e => ?_⟩
    all_goals have e := cI e
    all_goals simp only [cndI, i28, decide_eq_true_eq, decide_eq_false_iff_not] at e
    · exact mig3 hQ 12 0 0 h hh hf rfl (by omega) k0 (fun j hj => by omega) (fun j hj => kR j (by omega)) z0 z1 z2 z3 z4
    · match m, hm with
      | 0, hm => omega
      | m + 1, hm =>
        have hp1 : (p + 1).toInt = ((pn + 1 : Nat) : Int) := by rw [i_add (by rw [i1]; omega) (by rw [i1]; omega), i1]; omega
        generalize p + 1 = p1 at hp1 ⊢
        have q : p.toNatClampNeg = pn := by show p.toInt.toNat = _; omega
        have i : inB p 28 = true := inB_iff (by omega) (by omega)
        refine ⟨i, i, ?_⟩
        rw [q]
        refine mig2 hQ m (pn + 1) p1 _ (HI_cp hh rfl) (frm_put hf Wmig_120) hp1 (by omega) (by simpa [KIm, put_ne] using k0) (fun j hj => ?_) (fun j hj => by rw [put_ne (by omega)]; exact z0 j hj) (fun j hj => by rw [put_ne (by omega)]; exact z1 j hj) (fun j hj => by rw [put_ne (by omega)]; exact z2 j hj) (fun j hj => by rw [put_ne (by omega)]; exact z3 j hj) (fun j hj => by rw [put_ne (by omega)]; exact z4 j hj)
        rw [put_if]
        split
        · rename_i c
          rw [c]
          exact frI hf rfl
        · exact kR j (by omega)
theorem mig1 (hQ : ∀ h', HI h' → frm Wmig h0 h' → KIm h0 h' → (∀ j, j < 12 → h'.2.1 121 j = h0.2.1 114 j) → (∀ j, j < 28 → h'.2.1 120 j = h0.2.1 99 j) → (∀ j, j < 7 → h'.2.1 115 j = h0.2.1 94 j) → (∀ j, j < 7 → h'.2.1 116 j = h0.2.1 95 j) → (∀ j, j < 7 → h'.2.1 117 j = h0.2.1 96 j) → (∀ j, j < 7 → h'.2.1 118 j = h0.2.1 97 j) → (∀ j, j < 7 → h'.2.1 119 j = h0.2.1 98 j) → Q (some (.int (h'.2.1 93 0))) h') :
    ∀ (m pn : Nat) (p : Int32) (h : Hp), HI h → frm Wmig h0 h → p.toInt = pn → pn + m = 7 → KIm h0 h → (∀ j, j < pn → h.2.1 115 j = h0.2.1 94 j) → (∀ j, j < pn → h.2.1 116 j = h0.2.1 95 j) → (∀ j, j < pn → h.2.1 117 j = h0.2.1 96 j) → (∀ j, j < pn → h.2.1 118 j = h0.2.1 97 j) → (∀ j, j < pn → h.2.1 119 j = h0.2.1 98 j) →
    Ends X dp 184 55 [.ref 93, .int p] [] h Q
  | m, pn, p, h, hh, hf, hp, hm, k0, z0, z1, z2, z3, z4 => by
    have i7 : (7 : Int32).toInt = 7 := rfl
    refine w_mimage1 p hh.hs ⟨fun e => ?_, fun e => ?_⟩
    all_goals have e := cI e
    all_goals simp only [cndI, i7, decide_eq_true_eq, decide_eq_false_iff_not] at e
    · exact mig2 hQ 28 0 0 h hh hf rfl (by omega) k0 (fun j hj => by omega) (fun j hj => z0 j (by omega)) (fun j hj => z1 j (by omega)) (fun j hj => z2 j (by omega)) (fun j hj => z3 j (by omega)) (fun j hj => z4 j (by omega))
    · match m, hm with
      | 0, hm => omega
      | m + 1, hm =>
        have hp1 : (p + 1).toInt = ((pn + 1 : Nat) : Int) := by rw [i_add (by rw [i1]; omega) (by rw [i1]; omega), i1]; omega
        generalize p + 1 = p1 at hp1 ⊢
        have q : p.toNatClampNeg = pn := by show p.toInt.toNat = _; omega
        have i : inB p 7 = true := inB_iff (by omega) (by omega)
        refine ⟨i, i, i, i, i, i, i, i, i, i, ?_⟩
        rw [q]
        have hh5 : HI (hpI (hpI (hpI (hpI (hpI h 115 pn (h.2.1 94 pn)) 116 pn (h.2.1 95 pn)) 117 pn (h.2.1 96 pn)) 118 pn (h.2.1 97 pn)) 119 pn (h.2.1 98 pn)) := by
          have g0 := HI_put (a := 115) (k := pn) (x := h.2.1 94 pn) hh (hh.2.1 94 pn).1 (hh.2.1 94 pn).2
          have g1 := HI_put (a := 116) (k := pn) (x := h.2.1 95 pn) g0 (hh.2.1 95 pn).1 (hh.2.1 95 pn).2
          have g2 := HI_put (a := 117) (k := pn) (x := h.2.1 96 pn) g1 (hh.2.1 96 pn).1 (hh.2.1 96 pn).2
          have g3 := HI_put (a := 118) (k := pn) (x := h.2.1 97 pn) g2 (hh.2.1 97 pn).1 (hh.2.1 97 pn).2
          have g4 := HI_put (a := 119) (k := pn) (x := h.2.1 98 pn) g3 (hh.2.1 98 pn).1 (hh.2.1 98 pn).2
          exact g4
        refine mig1 hQ m (pn + 1) p1 _ hh5 (frm_put (frm_put (frm_put (frm_put (frm_put hf Wmig_115) Wmig_116) Wmig_117) Wmig_118) Wmig_119) hp1 (by omega) (by simpa [KIm, put_ne] using k0) (fun j hj => ?_) (fun j hj => ?_) (fun j hj => ?_) (fun j hj => ?_) (fun j hj => ?_)
        · rw [put_ne (by omega), put_ne (by omega), put_ne (by omega), put_ne (by omega), put_if]
          split
          · rename_i c
            rw [c]
            exact frI hf rfl
          · rw [show h.2.1 115 j = h.2.1 115 j from rfl]
            exact z0 j (by omega)
        · rw [put_ne (by omega), put_ne (by omega), put_ne (by omega), put_if]
          split
          · rename_i c
            rw [c]
            exact frI hf rfl
          · rw [put_ne (by omega)]
            exact z1 j (by omega)
        · rw [put_ne (by omega), put_ne (by omega), put_if]
          split
          · rename_i c
            rw [c]
            exact frI hf rfl
          · rw [put_ne (by omega), put_ne (by omega)]
            exact z2 j (by omega)
        · rw [put_ne (by omega), put_if]
          split
          · rename_i c
            rw [c]
            exact frI hf rfl
          · rw [put_ne (by omega), put_ne (by omega), put_ne (by omega)]
            exact z3 j (by omega)
        · rw [put_if]
          split
          · rename_i c
            rw [c]
            exact frI hf rfl
          · rw [put_ne (by omega), put_ne (by omega), put_ne (by omega), put_ne (by omega)]
            exact z4 j (by omega)
end
def Wmun : List (Nat × Nat) := [(93, 10), (93, 0), (93, 1), (93, 2), (93, 41), (93, 42), (94, 999), (95, 999), (96, 999), (97, 999), (98, 999), (99, 999), (114, 999)]
theorem Wmun_94 {k : Nat} : inW Wmun 94 k = true := by simp [inW, Wmun]
theorem Wmun_95 {k : Nat} : inW Wmun 95 k = true := by simp [inW, Wmun]
theorem Wmun_96 {k : Nat} : inW Wmun 96 k = true := by simp [inW, Wmun]
theorem Wmun_97 {k : Nat} : inW Wmun 97 k = true := by simp [inW, Wmun]
theorem Wmun_98 {k : Nat} : inW Wmun 98 k = true := by simp [inW, Wmun]
theorem Wmun_99 {k : Nat} : inW Wmun 99 k = true := by simp [inW, Wmun]
theorem Wmun_114 {k : Nat} : inW Wmun 114 k = true := by simp [inW, Wmun]
section
variable {X : Scr} {dp : Nat} {h0 : Hp} {Q : Option Value → Hp → Prop}
theorem mun3 (hQ : ∀ h', HI h' → frm Wmun h0 h' → KUn h0 h' → (∀ j, j < 12 → h'.2.1 114 j = h0.2.1 121 j) → (∀ j, j < 28 → h'.2.1 99 j = h0.2.1 120 j) → (∀ j, j < 7 → h'.2.1 94 j = h0.2.1 115 j) → (∀ j, j < 7 → h'.2.1 95 j = h0.2.1 116 j) → (∀ j, j < 7 → h'.2.1 96 j = h0.2.1 117 j) → (∀ j, j < 7 → h'.2.1 97 j = h0.2.1 118 j) → (∀ j, j < 7 → h'.2.1 98 j = h0.2.1 119 j) → Q (some (.int (h'.2.1 93 0))) h') :
    ∀ (m pn : Nat) (p : Int32) (h : Hp), HI h → frm Wmun h0 h → p.toInt = pn → pn + m = 12 → KUn h0 h → (∀ j, j < pn → h.2.1 114 j = h0.2.1 121 j) → (∀ j, j < 28 → h.2.1 99 j = h0.2.1 120 j) → (∀ j, j < 7 → h.2.1 94 j = h0.2.1 115 j) → (∀ j, j < 7 → h.2.1 95 j = h0.2.1 116 j) → (∀ j, j < 7 → h.2.1 96 j = h0.2.1 117 j) → (∀ j, j < 7 → h.2.1 97 j = h0.2.1 118 j) → (∀ j, j < 7 → h.2.1 98 j = h0.2.1 119 j) →
    Ends X dp 185 160 [.ref 93, .int p] [] h Q
  | m, pn, p, h, hh, hf, hp, hm, k0, kB, kR, z0, z1, z2, z3, z4 => by
    have i12 : (12 : Int32).toInt = 12 := rfl
    refine w_mundo3 p hh.hs ⟨fun e => ?_, fun e => ?_⟩
    all_goals have e := cI e
    all_goals simp only [cndI, i12, decide_eq_true_eq, decide_eq_false_iff_not] at e
    · exact hQ h hh hf k0 (fun j hj => kB j (by omega)) kR z0 z1 z2 z3 z4
    · match m, hm with
      | 0, hm => omega
      | m + 1, hm =>
        have hp1 : (p + 1).toInt = ((pn + 1 : Nat) : Int) := by rw [i_add (by rw [i1]; omega) (by rw [i1]; omega), i1]; omega
        generalize p + 1 = p1 at hp1 ⊢
        have q : p.toNatClampNeg = pn := by show p.toInt.toNat = _; omega
        have i : inB p 12 = true := inB_iff (by omega) (by omega)
        refine ⟨i, i, ?_⟩
        rw [q]
        refine mun3 hQ m (pn + 1) p1 _ (HI_cp hh rfl) (frm_put hf Wmun_114) hp1 (by omega) (by simpa [KUn, put_ne] using k0) (fun j hj => ?_) (fun j hj => by rw [put_ne (by omega)]; exact kR j hj) (fun j hj => by rw [put_ne (by omega)]; exact z0 j hj) (fun j hj => by rw [put_ne (by omega)]; exact z1 j hj) (fun j hj => by rw [put_ne (by omega)]; exact z2 j hj) (fun j hj => by rw [put_ne (by omega)]; exact z3 j hj) (fun j hj => by rw [put_ne (by omega)]; exact z4 j hj)
        rw [put_if]
        split
        · rename_i c
          rw [c]
          exact frI hf rfl
        · exact kB j (by omega)
theorem mun2 (hQ : ∀ h', HI h' → frm Wmun h0 h' → KUn h0 h' → (∀ j, j < 12 → h'.2.1 114 j = h0.2.1 121 j) → (∀ j, j < 28 → h'.2.1 99 j = h0.2.1 120 j) → (∀ j, j < 7 → h'.2.1 94 j = h0.2.1 115 j) → (∀ j, j < 7 → h'.2.1 95 j = h0.2.1 116 j) → (∀ j, j < 7 → h'.2.1 96 j = h0.2.1 117 j) → (∀ j, j < 7 → h'.2.1 97 j = h0.2.1 118 j) → (∀ j, j < 7 → h'.2.1 98 j = h0.2.1 119 j) → Q (some (.int (h'.2.1 93 0))) h') :
    ∀ (m pn : Nat) (p : Int32) (h : Hp), HI h → frm Wmun h0 h → p.toInt = pn → pn + m = 28 → KUn h0 h → (∀ j, j < pn → h.2.1 99 j = h0.2.1 120 j) → (∀ j, j < 7 → h.2.1 94 j = h0.2.1 115 j) → (∀ j, j < 7 → h.2.1 95 j = h0.2.1 116 j) → (∀ j, j < 7 → h.2.1 96 j = h0.2.1 117 j) → (∀ j, j < 7 → h.2.1 97 j = h0.2.1 118 j) → (∀ j, j < 7 → h.2.1 98 j = h0.2.1 119 j) →
    Ends X dp 185 134 [.ref 93, .int p] [] h Q
  | m, pn, p, h, hh, hf, hp, hm, k0, kR, z0, z1, z2, z3, z4 => by
    have i28 : (28 : Int32).toInt = 28 := rfl
    refine w_mundo2 p hh.hs ⟨fun e => ?_, fun e => ?_⟩
    all_goals have e := cI e
    all_goals simp only [cndI, i28, decide_eq_true_eq, decide_eq_false_iff_not] at e
    · exact mun3 hQ 12 0 0 h hh hf rfl (by omega) k0 (fun j hj => by omega) (fun j hj => kR j (by omega)) z0 z1 z2 z3 z4
    · match m, hm with
      | 0, hm => omega
      | m + 1, hm =>
        have hp1 : (p + 1).toInt = ((pn + 1 : Nat) : Int) := by rw [i_add (by rw [i1]; omega) (by rw [i1]; omega), i1]; omega
        generalize p + 1 = p1 at hp1 ⊢
        have q : p.toNatClampNeg = pn := by show p.toInt.toNat = _; omega
        have i : inB p 28 = true := inB_iff (by omega) (by omega)
        refine ⟨i, i, ?_⟩
        rw [q]
        refine mun2 hQ m (pn + 1) p1 _ (HI_cp hh rfl) (frm_put hf Wmun_99) hp1 (by omega) (by simpa [KUn, put_ne] using k0) (fun j hj => ?_) (fun j hj => by rw [put_ne (by omega)]; exact z0 j hj) (fun j hj => by rw [put_ne (by omega)]; exact z1 j hj) (fun j hj => by rw [put_ne (by omega)]; exact z2 j hj) (fun j hj => by rw [put_ne (by omega)]; exact z3 j hj) (fun j hj => by rw [put_ne (by omega)]; exact z4 j hj)
        rw [put_if]
        split
        · rename_i c
          rw [c]
          exact frI hf rfl
        · exact kR j (by omega)
theorem mun1 (hQ : ∀ h', HI h' → frm Wmun h0 h' → KUn h0 h' → (∀ j, j < 12 → h'.2.1 114 j = h0.2.1 121 j) → (∀ j, j < 28 → h'.2.1 99 j = h0.2.1 120 j) → (∀ j, j < 7 → h'.2.1 94 j = h0.2.1 115 j) → (∀ j, j < 7 → h'.2.1 95 j = h0.2.1 116 j) → (∀ j, j < 7 → h'.2.1 96 j = h0.2.1 117 j) → (∀ j, j < 7 → h'.2.1 97 j = h0.2.1 118 j) → (∀ j, j < 7 → h'.2.1 98 j = h0.2.1 119 j) → Q (some (.int (h'.2.1 93 0))) h') :
    ∀ (m pn : Nat) (p : Int32) (h : Hp), HI h → frm Wmun h0 h → p.toInt = pn → pn + m = 7 → KUn h0 h → (∀ j, j < pn → h.2.1 94 j = h0.2.1 115 j) → (∀ j, j < pn → h.2.1 95 j = h0.2.1 116 j) → (∀ j, j < pn → h.2.1 96 j = h0.2.1 117 j) → (∀ j, j < pn → h.2.1 97 j = h0.2.1 118 j) → (∀ j, j < pn → h.2.1 98 j = h0.2.1 119 j) →
    Ends X dp 185 60 [.ref 93, .int p] [] h Q
  | m, pn, p, h, hh, hf, hp, hm, k0, z0, z1, z2, z3, z4 => by
    have i7 : (7 : Int32).toInt = 7 := rfl
    refine w_mundo1 p hh.hs ⟨fun e => ?_, fun e => ?_⟩
    all_goals have e := cI e
    all_goals simp only [cndI, i7, decide_eq_true_eq, decide_eq_false_iff_not] at e
    · exact mun2 hQ 28 0 0 h hh hf rfl (by omega) k0 (fun j hj => by omega) (fun j hj => z0 j (by omega)) (fun j hj => z1 j (by omega)) (fun j hj => z2 j (by omega)) (fun j hj => z3 j (by omega)) (fun j hj => z4 j (by omega))
    · match m, hm with
      | 0, hm => omega
      | m + 1, hm =>
        have hp1 : (p + 1).toInt = ((pn + 1 : Nat) : Int) := by rw [i_add (by rw [i1]; omega) (by rw [i1]; omega), i1]; omega
        generalize p + 1 = p1 at hp1 ⊢
        have q : p.toNatClampNeg = pn := by show p.toInt.toNat = _; omega
        have i : inB p 7 = true := inB_iff (by omega) (by omega)
        refine ⟨i, i, i, i, i, i, i, i, i, i, ?_⟩
        rw [q]
        have hh5 : HI (hpI (hpI (hpI (hpI (hpI h 94 pn (h.2.1 115 pn)) 95 pn (h.2.1 116 pn)) 96 pn (h.2.1 117 pn)) 97 pn (h.2.1 118 pn)) 98 pn (h.2.1 119 pn)) := by
          have g0 := HI_put (a := 94) (k := pn) (x := h.2.1 115 pn) hh (hh.2.1 115 pn).1 (hh.2.1 115 pn).2
          have g1 := HI_put (a := 95) (k := pn) (x := h.2.1 116 pn) g0 (hh.2.1 116 pn).1 (hh.2.1 116 pn).2
          have g2 := HI_put (a := 96) (k := pn) (x := h.2.1 117 pn) g1 (hh.2.1 117 pn).1 (hh.2.1 117 pn).2
          have g3 := HI_put (a := 97) (k := pn) (x := h.2.1 118 pn) g2 (hh.2.1 118 pn).1 (hh.2.1 118 pn).2
          have g4 := HI_put (a := 98) (k := pn) (x := h.2.1 119 pn) g3 (hh.2.1 119 pn).1 (hh.2.1 119 pn).2
          exact g4
        refine mun1 hQ m (pn + 1) p1 _ hh5 (frm_put (frm_put (frm_put (frm_put (frm_put hf Wmun_94) Wmun_95) Wmun_96) Wmun_97) Wmun_98) hp1 (by omega) (by simpa [KUn, put_ne] using k0) (fun j hj => ?_) (fun j hj => ?_) (fun j hj => ?_) (fun j hj => ?_) (fun j hj => ?_)
        · rw [put_ne (by omega), put_ne (by omega), put_ne (by omega), put_ne (by omega), put_if]
          split
          · rename_i c
            rw [c]
            exact frI hf rfl
          · rw [show h.2.1 94 j = h.2.1 94 j from rfl]
            exact z0 j (by omega)
        · rw [put_ne (by omega), put_ne (by omega), put_ne (by omega), put_if]
          split
          · rename_i c
            rw [c]
            exact frI hf rfl
          · rw [put_ne (by omega)]
            exact z1 j (by omega)
        · rw [put_ne (by omega), put_ne (by omega), put_if]
          split
          · rename_i c
            rw [c]
            exact frI hf rfl
          · rw [put_ne (by omega), put_ne (by omega)]
            exact z2 j (by omega)
        · rw [put_ne (by omega), put_if]
          split
          · rename_i c
            rw [c]
            exact frI hf rfl
          · rw [put_ne (by omega), put_ne (by omega), put_ne (by omega)]
            exact z3 j (by omega)
        · rw [put_if]
          split
          · rename_i c
            rw [c]
            exact frI hf rfl
          · rw [put_ne (by omega), put_ne (by omega), put_ne (by omega), put_ne (by omega)]
            exact z4 j (by omega)
end
