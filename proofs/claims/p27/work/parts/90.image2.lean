/-! image and undo of both sides, exactly: their ends. -/
section IMG
variable {X : Scr} {dp : Nat} {h : Hp} {Q : Option Value → Hp → Prop}
def AEq (h0 h : Hp) (a b n : Nat) : Prop := ∀ j, j < n → h.2.1 a j = h0.2.1 b j
theorem mimg_ok (hh : HI h) (hQ : ∀ h', HI h' → frm Wmig h h' → KIm h h' → AEq h h' 121 114 12 → AEq h h' 120 99 28 → AEq h h' 115 94 7 → AEq h h' 116 95 7 → AEq h h' 117 96 7 → AEq h h' 118 97 7 → AEq h h' 119 98 7 → Q (some (.int (h.2.1 93 0))) h') : Ends X dp 184 0 [.ref 93, .retAddr 0] [] h Q := by
  have a0 := hh.2.1 93 10
  have a1 := hh.2.1 93 0
  have a2 := hh.2.1 93 1
  have a3 := hh.2.1 93 2
  have a5 := hh.2.1 93 42
  refine w_mimage0 hh.hs ?_
  have g1 : HI (hpI h 93 44 1) := HI_put hh (by show (0 : Int) ≤ 1; decide) (by show (1 : Int) ≤ 1; decide)
  have g2 := HI_put (a := 93) (k := 45) g1 a0.1 a0.2
  have g3 := HI_put (a := 93) (k := 46) g2 a1.1 a1.2
  have g4 := HI_put (a := 93) (k := 47) g3 a2.1 a2.2
  have g5 := HI_put (a := 93) (k := 48) g4 a3.1 a3.2
  have g6 := HI_put (a := 93) (k := 49) (x := h.2.1 93 41) g5 (i32r _).1 (i32r _).2
  have g7 := HI_put (a := 93) (k := 50) g6 a5.1 a5.2
  have f7 : frm Wmig h (hpI (hpI (hpI (hpI (hpI (hpI (hpI h 93 44 1) 93 45 (h.2.1 93 10)) 93 46 (h.2.1 93 0)) 93 47 (h.2.1 93 1)) 93 48 (h.2.1 93 2)) 93 49 (h.2.1 93 41)) 93 50 (h.2.1 93 42)) := frm_put (frm_put (frm_put (frm_put (frm_put (frm_put (frm_put frm_refl rfl) rfl) rfl) rfl) rfl) rfl) rfl
  refine mig1 (h0 := h) (fun h' z1 z2 z3 z4 z5 z6 z7 z8 z9 z10 => ?_) 7 0 0 _ g7 f7 rfl (by omega) ⟨rfl, rfl, rfl, rfl, rfl, rfl, rfl⟩ (fun j hj => by omega) (fun j hj => by omega) (fun j hj => by omega) (fun j hj => by omega) (fun j hj => by omega)
  have e : h'.2.1 93 0 = h.2.1 93 0 := frI z2 rfl
  rw [e]
  exact hQ h' z1 z2 z3 z4 z5 z6 z7 z8 z9 z10
theorem mund_ok (hh : HI h) (q0 : (h.2.1 93 44).toInt = 0 → Q (some (.int (-3))) h) (hQ : ¬ (h.2.1 93 44).toInt = 0 → ∀ h', HI h' → frm Wmun h h' → KUn h h' → AEq h h' 114 121 12 → AEq h h' 99 120 28 → AEq h h' 94 115 7 → AEq h h' 95 116 7 → AEq h h' 96 117 7 → AEq h h' 97 118 7 → AEq h h' 98 119 7 → Q (some (.int (h.2.1 93 46))) h') : Ends X dp 185 0 [.ref 93, .retAddr 0] [] h Q := by
  have a0 := hh.2.1 93 45
  have a1 := hh.2.1 93 46
  have a2 := hh.2.1 93 47
  have a3 := hh.2.1 93 48
  have a5 := hh.2.1 93 50
  refine w_mundo0 hh.hs ⟨fun e => ?_, fun e => q0 (Decidable.not_not.mp (of_decide_eq_false (cI e)))⟩
  have hQ := hQ (of_decide_eq_true (cI e))
  have g2 := HI_put (a := 93) (k := 10) hh a0.1 a0.2
  have g3 := HI_put (a := 93) (k := 0) g2 a1.1 a1.2
  have g4 := HI_put (a := 93) (k := 1) g3 a2.1 a2.2
  have g5 := HI_put (a := 93) (k := 2) g4 a3.1 a3.2
  have g6 := HI_put (a := 93) (k := 41) (x := h.2.1 93 49) g5 (i32r _).1 (i32r _).2
  have g7 := HI_put (a := 93) (k := 42) g6 a5.1 a5.2
  have f7 : frm Wmun h (hpI (hpI (hpI (hpI (hpI (hpI h 93 10 (h.2.1 93 45)) 93 0 (h.2.1 93 46)) 93 1 (h.2.1 93 47)) 93 2 (h.2.1 93 48)) 93 41 (h.2.1 93 49)) 93 42 (h.2.1 93 50)) := frm_put (frm_put (frm_put (frm_put (frm_put (frm_put frm_refl rfl) rfl) rfl) rfl) rfl) rfl
  refine mun1 (h0 := h) (fun h' z1 z2 z3 z4 z5 z6 z7 z8 z9 z10 => ?_) 7 0 0 _ g7 f7 rfl (by omega) ⟨rfl, rfl, rfl, rfl, rfl, rfl⟩ (fun j hj => by omega) (fun j hj => by omega) (fun j hj => by omega) (fun j hj => by omega) (fun j hj => by omega)
  have e : h'.2.1 93 0 = h.2.1 93 46 := z3.2.1
  rw [e]
  exact hQ h' z1 z2 z3 z4 z5 z6 z7 z8 z9 z10
/-- one group becomes another -/
def bec (h : Hp) (a b : Nat) : Hp := hpI (hpI (hpM (hpI (hpI (hpI (hpM (hpM (hpM (hpM (hpM (hpM (hpI h a 0 (h.2.1 b 0)) (a + 1) (b + 1) 0 0 7) (a + 2) (b + 2) 0 0 7) (a + 3) (b + 3) 0 0 7) (a + 4) (b + 4) 0 0 7) (a + 5) (b + 5) 0 0 7) (a + 6) (b + 6) 0 0 28) a 7 (h.2.1 b 7)) a 8 (h.2.1 b 8)) a 9 (h.2.1 b 9)) (a + 7) (b + 7) 0 0 12) a 11 (h.2.1 b 11)) a 12 (h.2.1 b 12)
theorem bec91_ok (hs : HS h) (hQ : Q none (bec h 9 1)) : Ends X dp 33 0 [.ref 9, .ref 1] [] h Q := w_bec91 hs hQ
theorem bec19_ok (hs : HS h) (hQ : Q none (bec h 1 9)) : Ends X dp 33 0 [.ref 1, .ref 9] [] h Q := w_bec19 hs hQ
theorem bec_hs {a b : Nat} (hs : HS h) : HS (bec h a b) := hs
theorem cimg_ok (hs : HS h) (hQ : Q (some (.int (h.2.1 1 0))) (hpI (bec h 9 1) 0 2 1)) : Ends X (dp + 1) 89 0 [.ref 0] [] h Q :=
  w_cimg hs (bec91_ok hs ⟨rfl, bec_hs hs, hQ⟩)
theorem cund_ok (hs : HS h) (q0 : (h.2.1 0 2).toInt = 0 → Q (some (.int (-3))) h) (hQ : ¬ (h.2.1 0 2).toInt = 0 → Q (some (.int (h.2.1 9 0))) (bec h 1 9)) : Ends X (dp + 1) 90 0 [.ref 0] [] h Q :=
  w_cund hs ⟨fun e => bec19_ok hs ⟨rfl, bec_hs hs, hQ (of_decide_eq_true (cI e))⟩, fun e => q0 (Decidable.not_not.mp (of_decide_eq_false (cI e)))⟩
end IMG
