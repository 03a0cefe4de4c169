/-! Walks of alone and of the law. -/
/-! The law: its loop, kind by kind. -/
theorem w_law {X : Scr} {dp : Nat} {h : Hp} {Q : Option Value → Hp → Prop} (i : Int32) (hs : HS h)
    (vc : ((condB .gt i ((Int32.ofNat X.1) - 6) = true → Q (some (.int 1)) h) ∧ (condB .gt i ((Int32.ofNat X.1) - 6) = false → (inB i X.1 = true ∧ (((((X.2 i.toNatClampNeg) &&& 63).toInt < 0 ∨ 35 < ((X.2 i.toNatClampNeg) &&& 63).toInt) → Ends X dp 0 1297 [.ref OLDB, .ref 0, .ref 93, .int i] [] h Q) ∧ (((X.2 i.toNatClampNeg) &&& 63).toInt = 0 → Ends X dp 0 192 [.ref OLDB, .ref 0, .ref 93, .int i] [] h Q) ∧ (((X.2 i.toNatClampNeg) &&& 63).toInt = 1 → Ends X dp 0 255 [.ref OLDB, .ref 0, .ref 93, .int i] [] h Q) ∧ (((X.2 i.toNatClampNeg) &&& 63).toInt = 2 → Ends X dp 0 288 [.ref OLDB, .ref 0, .ref 93, .int i] [] h Q) ∧ (((X.2 i.toNatClampNeg) &&& 63).toInt = 3 → Ends X dp 0 331 [.ref OLDB, .ref 0, .ref 93, .int i] [] h Q) ∧ (((X.2 i.toNatClampNeg) &&& 63).toInt = 4 → Ends X dp 0 380 [.ref OLDB, .ref 0, .ref 93, .int i] [] h Q) ∧ (((X.2 i.toNatClampNeg) &&& 63).toInt = 5 → Ends X dp 0 423 [.ref OLDB, .ref 0, .ref 93, .int i] [] h Q) ∧ (((X.2 i.toNatClampNeg) &&& 63).toInt = 6 → Ends X dp 0 446 [.ref OLDB, .ref 0, .ref 93, .int i] [] h Q) ∧ (((X.2 i.toNatClampNeg) &&& 63).toInt = 7 → Ends X dp 0 459 [.ref OLDB, .ref 0, .ref 93, .int i] [] h Q) ∧ (((X.2 i.toNatClampNeg) &&& 63).toInt = 8 → Ends X dp 0 482 [.ref OLDB, .ref 0, .ref 93, .int i] [] h Q) ∧ (((X.2 i.toNatClampNeg) &&& 63).toInt = 9 → Ends X dp 0 495 [.ref OLDB, .ref 0, .ref 93, .int i] [] h Q) ∧ (((X.2 i.toNatClampNeg) &&& 63).toInt = 10 → Ends X dp 0 528 [.ref OLDB, .ref 0, .ref 93, .int i] [] h Q) ∧ (((X.2 i.toNatClampNeg) &&& 63).toInt = 11 → Ends X dp 0 551 [.ref OLDB, .ref 0, .ref 93, .int i] [] h Q) ∧ (((X.2 i.toNatClampNeg) &&& 63).toInt = 12 → Ends X dp 0 574 [.ref OLDB, .ref 0, .ref 93, .int i] [] h Q) ∧ (((X.2 i.toNatClampNeg) &&& 63).toInt = 13 → Ends X dp 0 607 [.ref OLDB, .ref 0, .ref 93, .int i] [] h Q) ∧ (((X.2 i.toNatClampNeg) &&& 63).toInt = 14 → Ends X dp 0 630 [.ref OLDB, .ref 0, .ref 93, .int i] [] h Q) ∧ (((X.2 i.toNatClampNeg) &&& 63).toInt = 15 → Ends X dp 0 653 [.ref OLDB, .ref 0, .ref 93, .int i] [] h Q) ∧ (((X.2 i.toNatClampNeg) &&& 63).toInt = 16 → Ends X dp 0 666 [.ref OLDB, .ref 0, .ref 93, .int i] [] h Q) ∧ (((X.2 i.toNatClampNeg) &&& 63).toInt = 17 → Ends X dp 0 689 [.ref OLDB, .ref 0, .ref 93, .int i] [] h Q) ∧ (((X.2 i.toNatClampNeg) &&& 63).toInt = 18 → Ends X dp 0 712 [.ref OLDB, .ref 0, .ref 93, .int i] [] h Q) ∧ (((X.2 i.toNatClampNeg) &&& 63).toInt = 19 → Ends X dp 0 745 [.ref OLDB, .ref 0, .ref 93, .int i] [] h Q) ∧ (((X.2 i.toNatClampNeg) &&& 63).toInt = 20 → Ends X dp 0 768 [.ref OLDB, .ref 0, .ref 93, .int i] [] h Q) ∧ (((X.2 i.toNatClampNeg) &&& 63).toInt = 21 → Ends X dp 0 791 [.ref OLDB, .ref 0, .ref 93, .int i] [] h Q) ∧ (((X.2 i.toNatClampNeg) &&& 63).toInt = 22 → Ends X dp 0 834 [.ref OLDB, .ref 0, .ref 93, .int i] [] h Q) ∧ (((X.2 i.toNatClampNeg) &&& 63).toInt = 23 → Ends X dp 0 868 [.ref OLDB, .ref 0, .ref 93, .int i] [] h Q) ∧ (((X.2 i.toNatClampNeg) &&& 63).toInt = 24 → Ends X dp 0 891 [.ref OLDB, .ref 0, .ref 93, .int i] [] h Q) ∧ (((X.2 i.toNatClampNeg) &&& 63).toInt = 25 → Ends X dp 0 904 [.ref OLDB, .ref 0, .ref 93, .int i] [] h Q) ∧ (((X.2 i.toNatClampNeg) &&& 63).toInt = 26 → Ends X dp 0 937 [.ref OLDB, .ref 0, .ref 93, .int i] [] h Q) ∧ (((X.2 i.toNatClampNeg) &&& 63).toInt = 27 → Ends X dp 0 950 [.ref OLDB, .ref 0, .ref 93, .int i] [] h Q) ∧ (((X.2 i.toNatClampNeg) &&& 63).toInt = 28 → Ends X dp 0 963 [.ref OLDB, .ref 0, .ref 93, .int i] [] h Q) ∧ (((X.2 i.toNatClampNeg) &&& 63).toInt = 29 → Ends X dp 0 1006 [.ref OLDB, .ref 0, .ref 93, .int i] [] h Q) ∧ (((X.2 i.toNatClampNeg) &&& 63).toInt = 30 → Ends X dp 0 1029 [.ref OLDB, .ref 0, .ref 93, .int i] [] h Q) ∧ (((X.2 i.toNatClampNeg) &&& 63).toInt = 31 → Ends X dp 0 1062 [.ref OLDB, .ref 0, .ref 93, .int i] [] h Q) ∧ (((X.2 i.toNatClampNeg) &&& 63).toInt = 32 → Ends X dp 0 1085 [.ref OLDB, .ref 0, .ref 93, .int i] [] h Q) ∧ (((X.2 i.toNatClampNeg) &&& 63).toInt = 33 → Ends X dp 0 1128 [.ref OLDB, .ref 0, .ref 93, .int i] [] h Q) ∧ (((X.2 i.toNatClampNeg) &&& 63).toInt = 34 → Ends X dp 0 1201 [.ref OLDB, .ref 0, .ref 93, .int i] [] h Q) ∧ (((X.2 i.toNatClampNeg) &&& 63).toInt = 35 → Ends X dp 0 1234 [.ref OLDB, .ref 0, .ref 93, .int i] [] h Q)))))) :
    Ends X dp 0 18 [.ref OLDB, .ref 0, .ref 93, .int i] [] h Q := by
  have ra : ∀ {a : Nat}, a < 1000 → a ≤ OLDB := fun h => by have := OLDB_eq; omega
  refine e_iload_n (show pAt 0 18 = some (18, .iload_n 3, 1, []) from by decide +kernel) rfl ?_
  refine e_aload_n (show pAt 0 19 = some (19, .aload_n 0, 1, []) from by decide +kernel) rfl (Nat.le_refl OLDB) ?_
  refine e_slen (show pAt 0 20 = some (20, .arraylength, 1, []) from by decide +kernel) ?_
  refine e_bipush (c := 6) (show pAt 0 21 = some (21, .bipush 6, 2, []) from by decide +kernel) (by decide) ?_
  refine e_isub (show pAt 0 23 = some (23, .isub, 1, []) from by decide +kernel) ?_
  refine e_icmp (t := 1303) (show pAt 0 24 = some (24, .if_icmp .gt 1279, 3, []) from by decide +kernel) rfl (fun c1 => ?_) (fun c1 => ?_)
  · replace vc := vc.1 c1
    refine e_iconst (c := 1) (show pAt 0 1303 = some (1303, .iconst 1, 1, []) from by decide +kernel) (by decide) ?_
    exact e_retZ (show pAt 0 1304 = some (1304, .ireturn, 1, []) from by decide +kernel) rfl (by decide) vc
  · replace vc := vc.2 c1
    refine e_aload_n (show pAt 0 27 = some (27, .aload_n 0, 1, []) from by decide +kernel) rfl (Nat.le_refl OLDB) ?_
    refine e_iload_n (show pAt 0 28 = some (28, .iload_n 3, 1, []) from by decide +kernel) rfl ?_
    obtain ⟨c2, vc⟩ := vc
    refine e_sld (show pAt 0 29 = some (29, .iaload, 1, []) from by decide +kernel) c2 ?_
    refine e_bipush (c := 63) (show pAt 0 30 = some (30, .bipush 63, 2, []) from by decide +kernel) (by decide) ?_
    refine e_iand (show pAt 0 32 = some (32, .iand, 1, []) from by decide +kernel) ?_
    rcases (show (((X.2 i.toNatClampNeg) &&& 63).toInt < 0 ∨ 35 < ((X.2 i.toNatClampNeg) &&& 63).toInt) ∨ ((X.2 i.toNatClampNeg) &&& 63).toInt = 0 ∨ ((X.2 i.toNatClampNeg) &&& 63).toInt = 1 ∨ ((X.2 i.toNatClampNeg) &&& 63).toInt = 2 ∨ ((X.2 i.toNatClampNeg) &&& 63).toInt = 3 ∨ ((X.2 i.toNatClampNeg) &&& 63).toInt = 4 ∨ ((X.2 i.toNatClampNeg) &&& 63).toInt = 5 ∨ ((X.2 i.toNatClampNeg) &&& 63).toInt = 6 ∨ ((X.2 i.toNatClampNeg) &&& 63).toInt = 7 ∨ ((X.2 i.toNatClampNeg) &&& 63).toInt = 8 ∨ ((X.2 i.toNatClampNeg) &&& 63).toInt = 9 ∨ ((X.2 i.toNatClampNeg) &&& 63).toInt = 10 ∨ ((X.2 i.toNatClampNeg) &&& 63).toInt = 11 ∨ ((X.2 i.toNatClampNeg) &&& 63).toInt = 12 ∨ ((X.2 i.toNatClampNeg) &&& 63).toInt = 13 ∨ ((X.2 i.toNatClampNeg) &&& 63).toInt = 14 ∨ ((X.2 i.toNatClampNeg) &&& 63).toInt = 15 ∨ ((X.2 i.toNatClampNeg) &&& 63).toInt = 16 ∨ ((X.2 i.toNatClampNeg) &&& 63).toInt = 17 ∨ ((X.2 i.toNatClampNeg) &&& 63).toInt = 18 ∨ ((X.2 i.toNatClampNeg) &&& 63).toInt = 19 ∨ ((X.2 i.toNatClampNeg) &&& 63).toInt = 20 ∨ ((X.2 i.toNatClampNeg) &&& 63).toInt = 21 ∨ ((X.2 i.toNatClampNeg) &&& 63).toInt = 22 ∨ ((X.2 i.toNatClampNeg) &&& 63).toInt = 23 ∨ ((X.2 i.toNatClampNeg) &&& 63).toInt = 24 ∨ ((X.2 i.toNatClampNeg) &&& 63).toInt = 25 ∨ ((X.2 i.toNatClampNeg) &&& 63).toInt = 26 ∨ ((X.2 i.toNatClampNeg) &&& 63).toInt = 27 ∨ ((X.2 i.toNatClampNeg) &&& 63).toInt = 28 ∨ ((X.2 i.toNatClampNeg) &&& 63).toInt = 29 ∨ ((X.2 i.toNatClampNeg) &&& 63).toInt = 30 ∨ ((X.2 i.toNatClampNeg) &&& 63).toInt = 31 ∨ ((X.2 i.toNatClampNeg) &&& 63).toInt = 32 ∨ ((X.2 i.toNatClampNeg) &&& 63).toInt = 33 ∨ ((X.2 i.toNatClampNeg) &&& 63).toInt = 34 ∨ ((X.2 i.toNatClampNeg) &&& 63).toInt = 35 from by omega) with c3 | c3 | c3 | c3 | c3 | c3 | c3 | c3 | c3 | c3 | c3 | c3 | c3 | c3 | c3 | c3 | c3 | c3 | c3 | c3 | c3 | c3 | c3 | c3 | c3 | c3 | c3 | c3 | c3 | c3 | c3 | c3 | c3 | c3 | c3 | c3 | c3
    · refine e_tsd (t := 1297) (show pAt 0 33 = some (33, .tableswitch 1264 0 35 #[159, 222, 255, 298, 347, 390, 413, 426, 449, 462, 495, 518, 541, 574, 597, 620, 633, 656, 679, 712, 735, 758, 801, 835, 858, 871, 904, 917, 930, 973, 996, 1029, 1052, 1095, 1168, 1201], 159, []) from by decide +kernel) c3 rfl ?_
      replace vc := vc.1 c3
      exact vc
    · refine e_tsc (t := 192) 0 (show pAt 0 33 = some (33, .tableswitch 1264 0 35 #[159, 222, 255, 298, 347, 390, 413, 426, 449, 462, 495, 518, 541, 574, 597, 620, 633, 656, 679, 712, 735, 758, 801, 835, 858, 871, 904, 917, 930, 973, 996, 1029, 1052, 1095, 1168, 1201], 159, []) from by decide +kernel) (by omega) (by omega) rfl rfl ?_
      replace vc := vc.2.1 c3
      exact vc
    · refine e_tsc (t := 255) 1 (show pAt 0 33 = some (33, .tableswitch 1264 0 35 #[159, 222, 255, 298, 347, 390, 413, 426, 449, 462, 495, 518, 541, 574, 597, 620, 633, 656, 679, 712, 735, 758, 801, 835, 858, 871, 904, 917, 930, 973, 996, 1029, 1052, 1095, 1168, 1201], 159, []) from by decide +kernel) (by omega) (by omega) rfl rfl ?_
      replace vc := vc.2.2.1 c3
      exact vc
    · refine e_tsc (t := 288) 2 (show pAt 0 33 = some (33, .tableswitch 1264 0 35 #[159, 222, 255, 298, 347, 390, 413, 426, 449, 462, 495, 518, 541, 574, 597, 620, 633, 656, 679, 712, 735, 758, 801, 835, 858, 871, 904, 917, 930, 973, 996, 1029, 1052, 1095, 1168, 1201], 159, []) from by decide +kernel) (by omega) (by omega) rfl rfl ?_
      replace vc := vc.2.2.2.1 c3
      exact vc
    · refine e_tsc (t := 331) 3 (show pAt 0 33 = some (33, .tableswitch 1264 0 35 #[159, 222, 255, 298, 347, 390, 413, 426, 449, 462, 495, 518, 541, 574, 597, 620, 633, 656, 679, 712, 735, 758, 801, 835, 858, 871, 904, 917, 930, 973, 996, 1029, 1052, 1095, 1168, 1201], 159, []) from by decide +kernel) (by omega) (by omega) rfl rfl ?_
      replace vc := vc.2.2.2.2.1 c3
      exact vc
    · refine e_tsc (t := 380) 4 (show pAt 0 33 = some (33, .tableswitch 1264 0 35 #[159, 222, 255, 298, 347, 390, 413, 426, 449, 462, 495, 518, 541, 574, 597, 620, 633, 656, 679, 712, 735, 758, 801, 835, 858, 871, 904, 917, 930, 973, 996, 1029, 1052, 1095, 1168, 1201], 159, []) from by decide +kernel) (by omega) (by omega) rfl rfl ?_
      replace vc := vc.2.2.2.2.2.1 c3
      exact vc
    · refine e_tsc (t := 423) 5 (show pAt 0 33 = some (33, .tableswitch 1264 0 35 #[159, 222, 255, 298, 347, 390, 413, 426, 449, 462, 495, 518, 541, 574, 597, 620, 633, 656, 679, 712, 735, 758, 801, 835, 858, 871, 904, 917, 930, 973, 996, 1029, 1052, 1095, 1168, 1201], 159, []) from by decide +kernel) (by omega) (by omega) rfl rfl ?_
      replace vc := vc.2.2.2.2.2.2.1 c3
      exact vc
    · refine e_tsc (t := 446) 6 (show pAt 0 33 = some (33, .tableswitch 1264 0 35 #[159, 222, 255, 298, 347, 390, 413, 426, 449, 462, 495, 518, 541, 574, 597, 620, 633, 656, 679, 712, 735, 758, 801, 835, 858, 871, 904, 917, 930, 973, 996, 1029, 1052, 1095, 1168, 1201], 159, []) from by decide +kernel) (by omega) (by omega) rfl rfl ?_
      replace vc := vc.2.2.2.2.2.2.2.1 c3
      exact vc
    · refine e_tsc (t := 459) 7 (show pAt 0 33 = some (33, .tableswitch 1264 0 35 #[159, 222, 255, 298, 347, 390, 413, 426, 449, 462, 495, 518, 541, 574, 597, 620, 633, 656, 679, 712, 735, 758, 801, 835, 858, 871, 904, 917, 930, 973, 996, 1029, 1052, 1095, 1168, 1201], 159, []) from by decide +kernel) (by omega) (by omega) rfl rfl ?_
      replace vc := vc.2.2.2.2.2.2.2.2.1 c3
      exact vc
    · refine e_tsc (t := 482) 8 (show pAt 0 33 = some (33, .tableswitch 1264 0 35 #[159, 222, 255, 298, 347, 390, 413, 426, 449, 462, 495, 518, 541, 574, 597, 620, 633, 656, 679, 712, 735, 758, 801, 835, 858, 871, 904, 917, 930, 973, 996, 1029, 1052, 1095, 1168, 1201], 159, []) from by decide +kernel) (by omega) (by omega) rfl rfl ?_
      replace vc := vc.2.2.2.2.2.2.2.2.2.1 c3
      exact vc
    · refine e_tsc (t := 495) 9 (show pAt 0 33 = some (33, .tableswitch 1264 0 35 #[159, 222, 255, 298, 347, 390, 413, 426, 449, 462, 495, 518, 541, 574, 597, 620, 633, 656, 679, 712, 735, 758, 801, 835, 858, 871, 904, 917, 930, 973, 996, 1029, 1052, 1095, 1168, 1201], 159, []) from by decide +kernel) (by omega) (by omega) rfl rfl ?_
      replace vc := vc.2.2.2.2.2.2.2.2.2.2.1 c3
      exact vc
    · refine e_tsc (t := 528) 10 (show pAt 0 33 = some (33, .tableswitch 1264 0 35 #[159, 222, 255, 298, 347, 390, 413, 426, 449, 462, 495, 518, 541, 574, 597, 620, 633, 656, 679, 712, 735, 758, 801, 835, 858, 871, 904, 917, 930, 973, 996, 1029, 1052, 1095, 1168, 1201], 159, []) from by decide +kernel) (by omega) (by omega) rfl rfl ?_
      replace vc := vc.2.2.2.2.2.2.2.2.2.2.2.1 c3
      exact vc
    · refine e_tsc (t := 551) 11 (show pAt 0 33 = some (33, .tableswitch 1264 0 35 #[159, 222, 255, 298, 347, 390, 413, 426, 449, 462, 495, 518, 541, 574, 597, 620, 633, 656, 679, 712, 735, 758, 801, 835, 858, 871, 904, 917, 930, 973, 996, 1029, 1052, 1095, 1168, 1201], 159, []) from by decide +kernel) (by omega) (by omega) rfl rfl ?_
      replace vc := vc.2.2.2.2.2.2.2.2.2.2.2.2.1 c3
      exact vc
    · refine e_tsc (t := 574) 12 (show pAt 0 33 = some (33, .tableswitch 1264 0 35 #[159, 222, 255, 298, 347, 390, 413, 426, 449, 462, 495, 518, 541, 574, 597, 620, 633, 656, 679, 712, 735, 758, 801, 835, 858, 871, 904, 917, 930, 973, 996, 1029, 1052, 1095, 1168, 1201], 159, []) from by decide +kernel) (by omega) (by omega) rfl rfl ?_
      replace vc := vc.2.2.2.2.2.2.2.2.2.2.2.2.2.1 c3
      exact vc
    · refine e_tsc (t := 607) 13 (show pAt 0 33 = some (33, .tableswitch 1264 0 35 #[159, 222, 255, 298, 347, 390, 413, 426, 449, 462, 495, 518, 541, 574, 597, 620, 633, 656, 679, 712, 735, 758, 801, 835, 858, 871, 904, 917, 930, 973, 996, 1029, 1052, 1095, 1168, 1201], 159, []) from by decide +kernel) (by omega) (by omega) rfl rfl ?_
      replace vc := vc.2.2.2.2.2.2.2.2.2.2.2.2.2.2.1 c3
      exact vc
    · refine e_tsc (t := 630) 14 (show pAt 0 33 = some (33, .tableswitch 1264 0 35 #[159, 222, 255, 298, 347, 390, 413, 426, 449, 462, 495, 518, 541, 574, 597, 620, 633, 656, 679, 712, 735, 758, 801, 835, 858, 871, 904, 917, 930, 973, 996, 1029, 1052, 1095, 1168, 1201], 159, []) from by decide +kernel) (by omega) (by omega) rfl rfl ?_
      replace vc := vc.2.2.2.2.2.2.2.2.2.2.2.2.2.2.2.1 c3
      exact vc
    · refine e_tsc (t := 653) 15 (show pAt 0 33 = some (33, .tableswitch 1264 0 35 #[159, 222, 255, 298, 347, 390, 413, 426, 449, 462, 495, 518, 541, 574, 597, 620, 633, 656, 679, 712, 735, 758, 801, 835, 858, 871, 904, 917, 930, 973, 996, 1029, 1052, 1095, 1168, 1201], 159, []) from by decide +kernel) (by omega) (by omega) rfl rfl ?_
      replace vc := vc.2.2.2.2.2.2.2.2.2.2.2.2.2.2.2.2.1 c3
      exact vc
    · refine e_tsc (t := 666) 16 (show pAt 0 33 = some (33, .tableswitch 1264 0 35 #[159, 222, 255, 298, 347, 390, 413, 426, 449, 462, 495, 518, 541, 574, 597, 620, 633, 656, 679, 712, 735, 758, 801, 835, 858, 871, 904, 917, 930, 973, 996, 1029, 1052, 1095, 1168, 1201], 159, []) from by decide +kernel) (by omega) (by omega) rfl rfl ?_
      replace vc := vc.2.2.2.2.2.2.2.2.2.2.2.2.2.2.2.2.2.1 c3
      exact vc
    · refine e_tsc (t := 689) 17 (show pAt 0 33 = some (33, .tableswitch 1264 0 35 #[159, 222, 255, 298, 347, 390, 413, 426, 449, 462, 495, 518, 541, 574, 597, 620, 633, 656, 679, 712, 735, 758, 801, 835, 858, 871, 904, 917, 930, 973, 996, 1029, 1052, 1095, 1168, 1201], 159, []) from by decide +kernel) (by omega) (by omega) rfl rfl ?_
      replace vc := vc.2.2.2.2.2.2.2.2.2.2.2.2.2.2.2.2.2.2.1 c3
      exact vc
    · refine e_tsc (t := 712) 18 (show pAt 0 33 = some (33, .tableswitch 1264 0 35 #[159, 222, 255, 298, 347, 390, 413, 426, 449, 462, 495, 518, 541, 574, 597, 620, 633, 656, 679, 712, 735, 758, 801, 835, 858, 871, 904, 917, 930, 973, 996, 1029, 1052, 1095, 1168, 1201], 159, []) from by decide +kernel) (by omega) (by omega) rfl rfl ?_
      replace vc := vc.2.2.2.2.2.2.2.2.2.2.2.2.2.2.2.2.2.2.2.1 c3
      exact vc
    · refine e_tsc (t := 745) 19 (show pAt 0 33 = some (33, .tableswitch 1264 0 35 #[159, 222, 255, 298, 347, 390, 413, 426, 449, 462, 495, 518, 541, 574, 597, 620, 633, 656, 679, 712, 735, 758, 801, 835, 858, 871, 904, 917, 930, 973, 996, 1029, 1052, 1095, 1168, 1201], 159, []) from by decide +kernel) (by omega) (by omega) rfl rfl ?_
      replace vc := vc.2.2.2.2.2.2.2.2.2.2.2.2.2.2.2.2.2.2.2.2.1 c3
      exact vc
    · refine e_tsc (t := 768) 20 (show pAt 0 33 = some (33, .tableswitch 1264 0 35 #[159, 222, 255, 298, 347, 390, 413, 426, 449, 462, 495, 518, 541, 574, 597, 620, 633, 656, 679, 712, 735, 758, 801, 835, 858, 871, 904, 917, 930, 973, 996, 1029, 1052, 1095, 1168, 1201], 159, []) from by decide +kernel) (by omega) (by omega) rfl rfl ?_
      replace vc := vc.2.2.2.2.2.2.2.2.2.2.2.2.2.2.2.2.2.2.2.2.2.1 c3
      exact vc
    · refine e_tsc (t := 791) 21 (show pAt 0 33 = some (33, .tableswitch 1264 0 35 #[159, 222, 255, 298, 347, 390, 413, 426, 449, 462, 495, 518, 541, 574, 597, 620, 633, 656, 679, 712, 735, 758, 801, 835, 858, 871, 904, 917, 930, 973, 996, 1029, 1052, 1095, 1168, 1201], 159, []) from by decide +kernel) (by omega) (by omega) rfl rfl ?_
      replace vc := vc.2.2.2.2.2.2.2.2.2.2.2.2.2.2.2.2.2.2.2.2.2.2.1 c3
      exact vc
    · refine e_tsc (t := 834) 22 (show pAt 0 33 = some (33, .tableswitch 1264 0 35 #[159, 222, 255, 298, 347, 390, 413, 426, 449, 462, 495, 518, 541, 574, 597, 620, 633, 656, 679, 712, 735, 758, 801, 835, 858, 871, 904, 917, 930, 973, 996, 1029, 1052, 1095, 1168, 1201], 159, []) from by decide +kernel) (by omega) (by omega) rfl rfl ?_
      replace vc := vc.2.2.2.2.2.2.2.2.2.2.2.2.2.2.2.2.2.2.2.2.2.2.2.1 c3
      exact vc
    · refine e_tsc (t := 868) 23 (show pAt 0 33 = some (33, .tableswitch 1264 0 35 #[159, 222, 255, 298, 347, 390, 413, 426, 449, 462, 495, 518, 541, 574, 597, 620, 633, 656, 679, 712, 735, 758, 801, 835, 858, 871, 904, 917, 930, 973, 996, 1029, 1052, 1095, 1168, 1201], 159, []) from by decide +kernel) (by omega) (by omega) rfl rfl ?_
      replace vc := vc.2.2.2.2.2.2.2.2.2.2.2.2.2.2.2.2.2.2.2.2.2.2.2.2.1 c3
      exact vc
    · refine e_tsc (t := 891) 24 (show pAt 0 33 = some (33, .tableswitch 1264 0 35 #[159, 222, 255, 298, 347, 390, 413, 426, 449, 462, 495, 518, 541, 574, 597, 620, 633, 656, 679, 712, 735, 758, 801, 835, 858, 871, 904, 917, 930, 973, 996, 1029, 1052, 1095, 1168, 1201], 159, []) from by decide +kernel) (by omega) (by omega) rfl rfl ?_
      replace vc := vc.2.2.2.2.2.2.2.2.2.2.2.2.2.2.2.2.2.2.2.2.2.2.2.2.2.1 c3
      exact vc
    · refine e_tsc (t := 904) 25 (show pAt 0 33 = some (33, .tableswitch 1264 0 35 #[159, 222, 255, 298, 347, 390, 413, 426, 449, 462, 495, 518, 541, 574, 597, 620, 633, 656, 679, 712, 735, 758, 801, 835, 858, 871, 904, 917, 930, 973, 996, 1029, 1052, 1095, 1168, 1201], 159, []) from by decide +kernel) (by omega) (by omega) rfl rfl ?_
      replace vc := vc.2.2.2.2.2.2.2.2.2.2.2.2.2.2.2.2.2.2.2.2.2.2.2.2.2.2.1 c3
      exact vc
    · refine e_tsc (t := 937) 26 (show pAt 0 33 = some (33, .tableswitch 1264 0 35 #[159, 222, 255, 298, 347, 390, 413, 426, 449, 462, 495, 518, 541, 574, 597, 620, 633, 656, 679, 712, 735, 758, 801, 835, 858, 871, 904, 917, 930, 973, 996, 1029, 1052, 1095, 1168, 1201], 159, []) from by decide +kernel) (by omega) (by omega) rfl rfl ?_
      replace vc := vc.2.2.2.2.2.2.2.2.2.2.2.2.2.2.2.2.2.2.2.2.2.2.2.2.2.2.2.1 c3
      exact vc
    · refine e_tsc (t := 950) 27 (show pAt 0 33 = some (33, .tableswitch 1264 0 35 #[159, 222, 255, 298, 347, 390, 413, 426, 449, 462, 495, 518, 541, 574, 597, 620, 633, 656, 679, 712, 735, 758, 801, 835, 858, 871, 904, 917, 930, 973, 996, 1029, 1052, 1095, 1168, 1201], 159, []) from by decide +kernel) (by omega) (by omega) rfl rfl ?_
      replace vc := vc.2.2.2.2.2.2.2.2.2.2.2.2.2.2.2.2.2.2.2.2.2.2.2.2.2.2.2.2.1 c3
      exact vc
    · refine e_tsc (t := 963) 28 (show pAt 0 33 = some (33, .tableswitch 1264 0 35 #[159, 222, 255, 298, 347, 390, 413, 426, 449, 462, 495, 518, 541, 574, 597, 620, 633, 656, 679, 712, 735, 758, 801, 835, 858, 871, 904, 917, 930, 973, 996, 1029, 1052, 1095, 1168, 1201], 159, []) from by decide +kernel) (by omega) (by omega) rfl rfl ?_
      replace vc := vc.2.2.2.2.2.2.2.2.2.2.2.2.2.2.2.2.2.2.2.2.2.2.2.2.2.2.2.2.2.1 c3
      exact vc
    · refine e_tsc (t := 1006) 29 (show pAt 0 33 = some (33, .tableswitch 1264 0 35 #[159, 222, 255, 298, 347, 390, 413, 426, 449, 462, 495, 518, 541, 574, 597, 620, 633, 656, 679, 712, 735, 758, 801, 835, 858, 871, 904, 917, 930, 973, 996, 1029, 1052, 1095, 1168, 1201], 159, []) from by decide +kernel) (by omega) (by omega) rfl rfl ?_
      replace vc := vc.2.2.2.2.2.2.2.2.2.2.2.2.2.2.2.2.2.2.2.2.2.2.2.2.2.2.2.2.2.2.1 c3
      exact vc
    · refine e_tsc (t := 1029) 30 (show pAt 0 33 = some (33, .tableswitch 1264 0 35 #[159, 222, 255, 298, 347, 390, 413, 426, 449, 462, 495, 518, 541, 574, 597, 620, 633, 656, 679, 712, 735, 758, 801, 835, 858, 871, 904, 917, 930, 973, 996, 1029, 1052, 1095, 1168, 1201], 159, []) from by decide +kernel) (by omega) (by omega) rfl rfl ?_
      replace vc := vc.2.2.2.2.2.2.2.2.2.2.2.2.2.2.2.2.2.2.2.2.2.2.2.2.2.2.2.2.2.2.2.1 c3
      exact vc
    · refine e_tsc (t := 1062) 31 (show pAt 0 33 = some (33, .tableswitch 1264 0 35 #[159, 222, 255, 298, 347, 390, 413, 426, 449, 462, 495, 518, 541, 574, 597, 620, 633, 656, 679, 712, 735, 758, 801, 835, 858, 871, 904, 917, 930, 973, 996, 1029, 1052, 1095, 1168, 1201], 159, []) from by decide +kernel) (by omega) (by omega) rfl rfl ?_
      replace vc := vc.2.2.2.2.2.2.2.2.2.2.2.2.2.2.2.2.2.2.2.2.2.2.2.2.2.2.2.2.2.2.2.2.1 c3
      exact vc
    · refine e_tsc (t := 1085) 32 (show pAt 0 33 = some (33, .tableswitch 1264 0 35 #[159, 222, 255, 298, 347, 390, 413, 426, 449, 462, 495, 518, 541, 574, 597, 620, 633, 656, 679, 712, 735, 758, 801, 835, 858, 871, 904, 917, 930, 973, 996, 1029, 1052, 1095, 1168, 1201], 159, []) from by decide +kernel) (by omega) (by omega) rfl rfl ?_
      replace vc := vc.2.2.2.2.2.2.2.2.2.2.2.2.2.2.2.2.2.2.2.2.2.2.2.2.2.2.2.2.2.2.2.2.2.1 c3
      exact vc
    · refine e_tsc (t := 1128) 33 (show pAt 0 33 = some (33, .tableswitch 1264 0 35 #[159, 222, 255, 298, 347, 390, 413, 426, 449, 462, 495, 518, 541, 574, 597, 620, 633, 656, 679, 712, 735, 758, 801, 835, 858, 871, 904, 917, 930, 973, 996, 1029, 1052, 1095, 1168, 1201], 159, []) from by decide +kernel) (by omega) (by omega) rfl rfl ?_
      replace vc := vc.2.2.2.2.2.2.2.2.2.2.2.2.2.2.2.2.2.2.2.2.2.2.2.2.2.2.2.2.2.2.2.2.2.2.1 c3
      exact vc
    · refine e_tsc (t := 1201) 34 (show pAt 0 33 = some (33, .tableswitch 1264 0 35 #[159, 222, 255, 298, 347, 390, 413, 426, 449, 462, 495, 518, 541, 574, 597, 620, 633, 656, 679, 712, 735, 758, 801, 835, 858, 871, 904, 917, 930, 973, 996, 1029, 1052, 1095, 1168, 1201], 159, []) from by decide +kernel) (by omega) (by omega) rfl rfl ?_
      replace vc := vc.2.2.2.2.2.2.2.2.2.2.2.2.2.2.2.2.2.2.2.2.2.2.2.2.2.2.2.2.2.2.2.2.2.2.2.1 c3
      exact vc
    · refine e_tsc (t := 1234) 35 (show pAt 0 33 = some (33, .tableswitch 1264 0 35 #[159, 222, 255, 298, 347, 390, 413, 426, 449, 462, 495, 518, 541, 574, 597, 620, 633, 656, 679, 712, 735, 758, 801, 835, 858, 871, 904, 917, 930, 973, 996, 1029, 1052, 1095, 1168, 1201], 159, []) from by decide +kernel) (by omega) (by omega) rfl rfl ?_
      replace vc := vc.2.2.2.2.2.2.2.2.2.2.2.2.2.2.2.2.2.2.2.2.2.2.2.2.2.2.2.2.2.2.2.2.2.2.2.2 c3
      exact vc

theorem w_lawn {X : Scr} {dp : Nat} {h : Hp} {Q : Option Value → Hp → Prop} (i : Int32) (hs : HS h)
    (vc : Ends X dp 0 18 [.ref OLDB, .ref 0, .ref 93, .int (i + 6)] [] h Q) :
    Ends X dp 0 1297 [.ref OLDB, .ref 0, .ref 93, .int i] [] h Q := by
  have ra : ∀ {a : Nat}, a < 1000 → a ≤ OLDB := fun h => by have := OLDB_eq; omega
  refine e_iinc (c := 6) (show pAt 0 1297 = some (1297, .iinc 3 6, 3, []) from by decide +kernel) rfl rfl (by decide) rfl ?_
  refine e_goto (t := 18) (show pAt 0 1300 = some (1300, .goto (-1282), 3, []) from by decide +kernel) rfl ?_
  exact vc

theorem w_law0 {X : Scr} {dp : Nat} {h : Hp} {Q : Option Value → Hp → Prop} (i : Int32) (hs : HS h)
    (vc : (inB (i + 1) X.1 = true ∧ (inB (i + 2) X.1 = true ∧ (inB (i + 3) X.1 = true ∧ (inB (i + 4) X.1 = true ∧ (inB (i + 5) X.1 = true ∧ Ends X dp 63 0 [.ref 0, .int (X.2 (i + 1).toNatClampNeg), .int (X.2 (i + 2).toNatClampNeg), .int (X.2 (i + 3).toNatClampNeg), .int (X.2 (i + 4).toNatClampNeg), .int (X.2 (i + 5).toNatClampNeg)] [] h (fun rv h6 => ∃ r7, rv = some (.int r7) ∧ HS h6 ∧ (inB (i + 1) X.1 = true ∧ (inB (i + 2) X.1 = true ∧ (inB (i + 3) X.1 = true ∧ (inB (i + 4) X.1 = true ∧ (inB (i + 5) X.1 = true ∧ Ends X dp 114 0 [.ref 93, .int (X.2 (i + 1).toNatClampNeg), .int (X.2 (i + 2).toNatClampNeg), .int (X.2 (i + 3).toNatClampNeg), .int (X.2 (i + 4).toNatClampNeg), .int (X.2 (i + 5).toNatClampNeg), .retAddr 0] [] h6 (fun rv h14 => ∃ r15, rv = some (.int r15) ∧ HS h14 ∧ Ends X (dp + 1) 0 1297 [.ref OLDB, .ref 0, .ref 93, .int i] [] h14 Q))))))))))))) :
    Ends X (dp + 1) 0 192 [.ref OLDB, .ref 0, .ref 93, .int i] [] h Q := by
  have ra : ∀ {a : Nat}, a < 1000 → a ≤ OLDB := fun h => by have := OLDB_eq; omega
  refine e_aload_n (show pAt 0 192 = some (192, .aload_n 1, 1, []) from by decide +kernel) rfl (ra (by decide)) ?_
  refine e_aload_n (show pAt 0 193 = some (193, .aload_n 0, 1, []) from by decide +kernel) rfl (Nat.le_refl OLDB) ?_
  refine e_iload_n (show pAt 0 194 = some (194, .iload_n 3, 1, []) from by decide +kernel) rfl ?_
  refine e_iconst (c := 1) (show pAt 0 195 = some (195, .iconst 1, 1, []) from by decide +kernel) (by decide) ?_
  refine e_iadd (show pAt 0 196 = some (196, .iadd, 1, []) from by decide +kernel) ?_
  obtain ⟨c1, vc⟩ := vc
  refine e_sld (show pAt 0 197 = some (197, .iaload, 1, []) from by decide +kernel) c1 ?_
  refine e_aload_n (show pAt 0 198 = some (198, .aload_n 0, 1, []) from by decide +kernel) rfl (Nat.le_refl OLDB) ?_
  refine e_iload_n (show pAt 0 199 = some (199, .iload_n 3, 1, []) from by decide +kernel) rfl ?_
  refine e_iconst (c := 2) (show pAt 0 200 = some (200, .iconst 2, 1, []) from by decide +kernel) (by decide) ?_
  refine e_iadd (show pAt 0 201 = some (201, .iadd, 1, []) from by decide +kernel) ?_
  obtain ⟨c2, vc⟩ := vc
  refine e_sld (show pAt 0 202 = some (202, .iaload, 1, []) from by decide +kernel) c2 ?_
  refine e_aload_n (show pAt 0 203 = some (203, .aload_n 0, 1, []) from by decide +kernel) rfl (Nat.le_refl OLDB) ?_
  refine e_iload_n (show pAt 0 204 = some (204, .iload_n 3, 1, []) from by decide +kernel) rfl ?_
  refine e_iconst (c := 3) (show pAt 0 205 = some (205, .iconst 3, 1, []) from by decide +kernel) (by decide) ?_
  refine e_iadd (show pAt 0 206 = some (206, .iadd, 1, []) from by decide +kernel) ?_
  obtain ⟨c3, vc⟩ := vc
  refine e_sld (show pAt 0 207 = some (207, .iaload, 1, []) from by decide +kernel) c3 ?_
  refine e_aload_n (show pAt 0 208 = some (208, .aload_n 0, 1, []) from by decide +kernel) rfl (Nat.le_refl OLDB) ?_
  refine e_iload_n (show pAt 0 209 = some (209, .iload_n 3, 1, []) from by decide +kernel) rfl ?_
  refine e_iconst (c := 4) (show pAt 0 210 = some (210, .iconst 4, 1, []) from by decide +kernel) (by decide) ?_
  refine e_iadd (show pAt 0 211 = some (211, .iadd, 1, []) from by decide +kernel) ?_
  obtain ⟨c4, vc⟩ := vc
  refine e_sld (show pAt 0 212 = some (212, .iaload, 1, []) from by decide +kernel) c4 ?_
  refine e_aload_n (show pAt 0 213 = some (213, .aload_n 0, 1, []) from by decide +kernel) rfl (Nat.le_refl OLDB) ?_
  refine e_iload_n (show pAt 0 214 = some (214, .iload_n 3, 1, []) from by decide +kernel) rfl ?_
  refine e_iconst (c := 5) (show pAt 0 215 = some (215, .iconst 5, 1, []) from by decide +kernel) (by decide) ?_
  refine e_iadd (show pAt 0 216 = some (216, .iadd, 1, []) from by decide +kernel) ?_
  obtain ⟨c5, vc⟩ := vc
  refine e_sld (show pAt 0 217 = some (217, .iaload, 1, []) from by decide +kernel) c5 ?_
  refine Ends.call (show pAt 0 218 = some (218, .invokevirtual 13, 3, [63, 6, 0, 0, 2053, 2054, 2055]) from by decide +kernel) (isRet_none rfl) rfl (call_this (show HS h from hs) rfl rfl (by decide)) (Ends.mono vc ?_)
  rintro _ h6 ⟨r7, rfl, hs_h6, vc⟩
  refine e_pop (show pAt 0 221 = some (221, .pop, 1, []) from by decide +kernel) ?_
  refine e_aload_n (show pAt 0 222 = some (222, .aload_n 2, 1, []) from by decide +kernel) rfl (ra (by decide)) ?_
  refine e_aload_n (show pAt 0 223 = some (223, .aload_n 0, 1, []) from by decide +kernel) rfl (Nat.le_refl OLDB) ?_
  refine e_iload_n (show pAt 0 224 = some (224, .iload_n 3, 1, []) from by decide +kernel) rfl ?_
  refine e_iconst (c := 1) (show pAt 0 225 = some (225, .iconst 1, 1, []) from by decide +kernel) (by decide) ?_
  refine e_iadd (show pAt 0 226 = some (226, .iadd, 1, []) from by decide +kernel) ?_
  obtain ⟨c9, vc⟩ := vc
  refine e_sld (show pAt 0 227 = some (227, .iaload, 1, []) from by decide +kernel) c9 ?_
  refine e_aload_n (show pAt 0 228 = some (228, .aload_n 0, 1, []) from by decide +kernel) rfl (Nat.le_refl OLDB) ?_
  refine e_iload_n (show pAt 0 229 = some (229, .iload_n 3, 1, []) from by decide +kernel) rfl ?_
  refine e_iconst (c := 2) (show pAt 0 230 = some (230, .iconst 2, 1, []) from by decide +kernel) (by decide) ?_
  refine e_iadd (show pAt 0 231 = some (231, .iadd, 1, []) from by decide +kernel) ?_
  obtain ⟨c10, vc⟩ := vc
  refine e_sld (show pAt 0 232 = some (232, .iaload, 1, []) from by decide +kernel) c10 ?_
  refine e_aload_n (show pAt 0 233 = some (233, .aload_n 0, 1, []) from by decide +kernel) rfl (Nat.le_refl OLDB) ?_
  refine e_iload_n (show pAt 0 234 = some (234, .iload_n 3, 1, []) from by decide +kernel) rfl ?_
  refine e_iconst (c := 3) (show pAt 0 235 = some (235, .iconst 3, 1, []) from by decide +kernel) (by decide) ?_
  refine e_iadd (show pAt 0 236 = some (236, .iadd, 1, []) from by decide +kernel) ?_
  obtain ⟨c11, vc⟩ := vc
  refine e_sld (show pAt 0 237 = some (237, .iaload, 1, []) from by decide +kernel) c11 ?_
  refine e_aload_n (show pAt 0 238 = some (238, .aload_n 0, 1, []) from by decide +kernel) rfl (Nat.le_refl OLDB) ?_
  refine e_iload_n (show pAt 0 239 = some (239, .iload_n 3, 1, []) from by decide +kernel) rfl ?_
  refine e_iconst (c := 4) (show pAt 0 240 = some (240, .iconst 4, 1, []) from by decide +kernel) (by decide) ?_
  refine e_iadd (show pAt 0 241 = some (241, .iadd, 1, []) from by decide +kernel) ?_
  obtain ⟨c12, vc⟩ := vc
  refine e_sld (show pAt 0 242 = some (242, .iaload, 1, []) from by decide +kernel) c12 ?_
  refine e_aload_n (show pAt 0 243 = some (243, .aload_n 0, 1, []) from by decide +kernel) rfl (Nat.le_refl OLDB) ?_
  refine e_iload_n (show pAt 0 244 = some (244, .iload_n 3, 1, []) from by decide +kernel) rfl ?_
  refine e_iconst (c := 5) (show pAt 0 245 = some (245, .iconst 5, 1, []) from by decide +kernel) (by decide) ?_
  refine e_iadd (show pAt 0 246 = some (246, .iadd, 1, []) from by decide +kernel) ?_
  obtain ⟨c13, vc⟩ := vc
  refine e_sld (show pAt 0 247 = some (247, .iaload, 1, []) from by decide +kernel) c13 ?_
  refine Ends.call (show pAt 0 248 = some (248, .invokevirtual 17, 3, [114, 6, 0, 0, 5077, 5078, 5079]) from by decide +kernel) (isRet_none rfl) rfl (call_this (show HS h6 from hs_h6) rfl rfl (by decide)) (Ends.mono vc ?_)
  rintro _ h14 ⟨r15, rfl, hs_h14, vc⟩
  refine e_pop (show pAt 0 251 = some (251, .pop, 1, []) from by decide +kernel) ?_
  refine e_goto (t := 1297) (show pAt 0 252 = some (252, .goto 1045, 3, []) from by decide +kernel) rfl ?_
  exact vc

theorem w_law1 {X : Scr} {dp : Nat} {h : Hp} {Q : Option Value → Hp → Prop} (i : Int32) (hs : HS h)
    (vc : (inB (i + 1) X.1 = true ∧ (inB (i + 2) X.1 = true ∧ Ends X dp 64 0 [.ref 0, .int (X.2 (i + 1).toNatClampNeg), .int (X.2 (i + 2).toNatClampNeg)] [] h (fun rv h3 => ∃ r4, rv = some (.int r4) ∧ HS h3 ∧ (inB (i + 1) X.1 = true ∧ (inB (i + 2) X.1 = true ∧ Ends X dp 149 0 [.ref 93, .int (X.2 (i + 1).toNatClampNeg), .int (X.2 (i + 2).toNatClampNeg)] [] h3 (fun rv h8 => ∃ r9, rv = some (.int r9) ∧ HS h8 ∧ Ends X (dp + 1) 0 1297 [.ref OLDB, .ref 0, .ref 93, .int i] [] h8 Q))))))) :
    Ends X (dp + 1) 0 255 [.ref OLDB, .ref 0, .ref 93, .int i] [] h Q := by
  have ra : ∀ {a : Nat}, a < 1000 → a ≤ OLDB := fun h => by have := OLDB_eq; omega
  refine e_aload_n (show pAt 0 255 = some (255, .aload_n 1, 1, []) from by decide +kernel) rfl (ra (by decide)) ?_
  refine e_aload_n (show pAt 0 256 = some (256, .aload_n 0, 1, []) from by decide +kernel) rfl (Nat.le_refl OLDB) ?_
  refine e_iload_n (show pAt 0 257 = some (257, .iload_n 3, 1, []) from by decide +kernel) rfl ?_
  refine e_iconst (c := 1) (show pAt 0 258 = some (258, .iconst 1, 1, []) from by decide +kernel) (by decide) ?_
  refine e_iadd (show pAt 0 259 = some (259, .iadd, 1, []) from by decide +kernel) ?_
  obtain ⟨c1, vc⟩ := vc
  refine e_sld (show pAt 0 260 = some (260, .iaload, 1, []) from by decide +kernel) c1 ?_
  refine e_aload_n (show pAt 0 261 = some (261, .aload_n 0, 1, []) from by decide +kernel) rfl (Nat.le_refl OLDB) ?_
  refine e_iload_n (show pAt 0 262 = some (262, .iload_n 3, 1, []) from by decide +kernel) rfl ?_
  refine e_iconst (c := 2) (show pAt 0 263 = some (263, .iconst 2, 1, []) from by decide +kernel) (by decide) ?_
  refine e_iadd (show pAt 0 264 = some (264, .iadd, 1, []) from by decide +kernel) ?_
  obtain ⟨c2, vc⟩ := vc
  refine e_sld (show pAt 0 265 = some (265, .iaload, 1, []) from by decide +kernel) c2 ?_
  refine Ends.call (show pAt 0 266 = some (266, .invokevirtual 18, 3, [64, 3, 0, 0, 2067, 2068, 2069]) from by decide +kernel) (isRet_none rfl) rfl (call_this (show HS h from hs) rfl rfl (by decide)) (Ends.mono vc ?_)
  rintro _ h3 ⟨r4, rfl, hs_h3, vc⟩
  refine e_pop (show pAt 0 269 = some (269, .pop, 1, []) from by decide +kernel) ?_
  refine e_aload_n (show pAt 0 270 = some (270, .aload_n 2, 1, []) from by decide +kernel) rfl (ra (by decide)) ?_
  refine e_aload_n (show pAt 0 271 = some (271, .aload_n 0, 1, []) from by decide +kernel) rfl (Nat.le_refl OLDB) ?_
  refine e_iload_n (show pAt 0 272 = some (272, .iload_n 3, 1, []) from by decide +kernel) rfl ?_
  refine e_iconst (c := 1) (show pAt 0 273 = some (273, .iconst 1, 1, []) from by decide +kernel) (by decide) ?_
  refine e_iadd (show pAt 0 274 = some (274, .iadd, 1, []) from by decide +kernel) ?_
  obtain ⟨c6, vc⟩ := vc
  refine e_sld (show pAt 0 275 = some (275, .iaload, 1, []) from by decide +kernel) c6 ?_
  refine e_aload_n (show pAt 0 276 = some (276, .aload_n 0, 1, []) from by decide +kernel) rfl (Nat.le_refl OLDB) ?_
  refine e_iload_n (show pAt 0 277 = some (277, .iload_n 3, 1, []) from by decide +kernel) rfl ?_
  refine e_iconst (c := 2) (show pAt 0 278 = some (278, .iconst 2, 1, []) from by decide +kernel) (by decide) ?_
  refine e_iadd (show pAt 0 279 = some (279, .iadd, 1, []) from by decide +kernel) ?_
  obtain ⟨c7, vc⟩ := vc
  refine e_sld (show pAt 0 280 = some (280, .iaload, 1, []) from by decide +kernel) c7 ?_
  refine Ends.call (show pAt 0 281 = some (281, .invokevirtual 22, 3, [149, 3, 0, 0, 5165, 5166, 5167]) from by decide +kernel) (isRet_none rfl) rfl (call_this (show HS h3 from hs_h3) rfl rfl (by decide)) (Ends.mono vc ?_)
  rintro _ h8 ⟨r9, rfl, hs_h8, vc⟩
  refine e_pop (show pAt 0 284 = some (284, .pop, 1, []) from by decide +kernel) ?_
  refine e_goto (t := 1297) (show pAt 0 285 = some (285, .goto 1012, 3, []) from by decide +kernel) rfl ?_
  exact vc

theorem w_law2 {X : Scr} {dp : Nat} {h : Hp} {Q : Option Value → Hp → Prop} (i : Int32) (hs : HS h)
    (vc : (inB (i + 1) X.1 = true ∧ (inB (i + 2) X.1 = true ∧ (inB (i + 3) X.1 = true ∧ Ends X dp 65 0 [.ref 0, .int (X.2 (i + 1).toNatClampNeg), .int (X.2 (i + 2).toNatClampNeg), .int (X.2 (i + 3).toNatClampNeg), .retAddr 0] [] h (fun rv h4 => ∃ r5, rv = some (.int r5) ∧ HS h4 ∧ (inB (i + 1) X.1 = true ∧ (inB (i + 2) X.1 = true ∧ (inB (i + 3) X.1 = true ∧ Ends X dp 115 0 [.ref 93, .int (X.2 (i + 1).toNatClampNeg), .int (X.2 (i + 2).toNatClampNeg), .int (X.2 (i + 3).toNatClampNeg), .retAddr 0] [] h4 (fun rv h10 => ∃ r11, rv = some (.int r11) ∧ HS h10 ∧ Ends X (dp + 1) 0 1297 [.ref OLDB, .ref 0, .ref 93, .int i] [] h10 Q))))))))) :
    Ends X (dp + 1) 0 288 [.ref OLDB, .ref 0, .ref 93, .int i] [] h Q := by
  have ra : ∀ {a : Nat}, a < 1000 → a ≤ OLDB := fun h => by have := OLDB_eq; omega
  refine e_aload_n (show pAt 0 288 = some (288, .aload_n 1, 1, []) from by decide +kernel) rfl (ra (by decide)) ?_
  refine e_aload_n (show pAt 0 289 = some (289, .aload_n 0, 1, []) from by decide +kernel) rfl (Nat.le_refl OLDB) ?_
  refine e_iload_n (show pAt 0 290 = some (290, .iload_n 3, 1, []) from by decide +kernel) rfl ?_
  refine e_iconst (c := 1) (show pAt 0 291 = some (291, .iconst 1, 1, []) from by decide +kernel) (by decide) ?_
  refine e_iadd (show pAt 0 292 = some (292, .iadd, 1, []) from by decide +kernel) ?_
  obtain ⟨c1, vc⟩ := vc
  refine e_sld (show pAt 0 293 = some (293, .iaload, 1, []) from by decide +kernel) c1 ?_
  refine e_aload_n (show pAt 0 294 = some (294, .aload_n 0, 1, []) from by decide +kernel) rfl (Nat.le_refl OLDB) ?_
  refine e_iload_n (show pAt 0 295 = some (295, .iload_n 3, 1, []) from by decide +kernel) rfl ?_
  refine e_iconst (c := 2) (show pAt 0 296 = some (296, .iconst 2, 1, []) from by decide +kernel) (by decide) ?_
  refine e_iadd (show pAt 0 297 = some (297, .iadd, 1, []) from by decide +kernel) ?_
  obtain ⟨c2, vc⟩ := vc
  refine e_sld (show pAt 0 298 = some (298, .iaload, 1, []) from by decide +kernel) c2 ?_
  refine e_aload_n (show pAt 0 299 = some (299, .aload_n 0, 1, []) from by decide +kernel) rfl (Nat.le_refl OLDB) ?_
  refine e_iload_n (show pAt 0 300 = some (300, .iload_n 3, 1, []) from by decide +kernel) rfl ?_
  refine e_iconst (c := 3) (show pAt 0 301 = some (301, .iconst 3, 1, []) from by decide +kernel) (by decide) ?_
  refine e_iadd (show pAt 0 302 = some (302, .iadd, 1, []) from by decide +kernel) ?_
  obtain ⟨c3, vc⟩ := vc
  refine e_sld (show pAt 0 303 = some (303, .iaload, 1, []) from by decide +kernel) c3 ?_
  refine Ends.call (show pAt 0 304 = some (304, .invokevirtual 23, 3, [65, 4, 0, 0, 2207, 2208, 2209]) from by decide +kernel) (isRet_none rfl) rfl (call_this (show HS h from hs) rfl rfl (by decide)) (Ends.mono vc ?_)
  rintro _ h4 ⟨r5, rfl, hs_h4, vc⟩
  refine e_pop (show pAt 0 307 = some (307, .pop, 1, []) from by decide +kernel) ?_
  refine e_aload_n (show pAt 0 308 = some (308, .aload_n 2, 1, []) from by decide +kernel) rfl (ra (by decide)) ?_
  refine e_aload_n (show pAt 0 309 = some (309, .aload_n 0, 1, []) from by decide +kernel) rfl (Nat.le_refl OLDB) ?_
  refine e_iload_n (show pAt 0 310 = some (310, .iload_n 3, 1, []) from by decide +kernel) rfl ?_
  refine e_iconst (c := 1) (show pAt 0 311 = some (311, .iconst 1, 1, []) from by decide +kernel) (by decide) ?_
  refine e_iadd (show pAt 0 312 = some (312, .iadd, 1, []) from by decide +kernel) ?_
  obtain ⟨c7, vc⟩ := vc
  refine e_sld (show pAt 0 313 = some (313, .iaload, 1, []) from by decide +kernel) c7 ?_
  refine e_aload_n (show pAt 0 314 = some (314, .aload_n 0, 1, []) from by decide +kernel) rfl (Nat.le_refl OLDB) ?_
  refine e_iload_n (show pAt 0 315 = some (315, .iload_n 3, 1, []) from by decide +kernel) rfl ?_
  refine e_iconst (c := 2) (show pAt 0 316 = some (316, .iconst 2, 1, []) from by decide +kernel) (by decide) ?_
  refine e_iadd (show pAt 0 317 = some (317, .iadd, 1, []) from by decide +kernel) ?_
  obtain ⟨c8, vc⟩ := vc
  refine e_sld (show pAt 0 318 = some (318, .iaload, 1, []) from by decide +kernel) c8 ?_
  refine e_aload_n (show pAt 0 319 = some (319, .aload_n 0, 1, []) from by decide +kernel) rfl (Nat.le_refl OLDB) ?_
  refine e_iload_n (show pAt 0 320 = some (320, .iload_n 3, 1, []) from by decide +kernel) rfl ?_
  refine e_iconst (c := 3) (show pAt 0 321 = some (321, .iconst 3, 1, []) from by decide +kernel) (by decide) ?_
  refine e_iadd (show pAt 0 322 = some (322, .iadd, 1, []) from by decide +kernel) ?_
  obtain ⟨c9, vc⟩ := vc
  refine e_sld (show pAt 0 323 = some (323, .iaload, 1, []) from by decide +kernel) c9 ?_
  refine Ends.call (show pAt 0 324 = some (324, .invokevirtual 27, 3, [115, 4, 0, 0, 5085, 5086, 5087]) from by decide +kernel) (isRet_none rfl) rfl (call_this (show HS h4 from hs_h4) rfl rfl (by decide)) (Ends.mono vc ?_)
  rintro _ h10 ⟨r11, rfl, hs_h10, vc⟩
  refine e_pop (show pAt 0 327 = some (327, .pop, 1, []) from by decide +kernel) ?_
  refine e_goto (t := 1297) (show pAt 0 328 = some (328, .goto 969, 3, []) from by decide +kernel) rfl ?_
  exact vc

theorem w_law3 {X : Scr} {dp : Nat} {h : Hp} {Q : Option Value → Hp → Prop} (i : Int32) (hs : HS h)
    (vc : (inB (i + 1) X.1 = true ∧ (inB (i + 2) X.1 = true ∧ ((condB .eq (X.2 (i + 2).toNatClampNeg) 0 = true → Ends X dp 66 0 [.ref 0, .int (X.2 (i + 1).toNatClampNeg), .int 0, .retAddr 0] [] h (fun rv h4 => ∃ r5, rv = some (.int r5) ∧ HS h4 ∧ (inB (i + 1) X.1 = true ∧ (inB (i + 2) X.1 = true ∧ ((condB .eq (X.2 (i + 2).toNatClampNeg) 0 = true → Ends X dp 116 0 [.ref 93, .int (X.2 (i + 1).toNatClampNeg), .int 0, .retAddr 0] [] h4 (fun rv h10 => ∃ r11, rv = some (.int r11) ∧ HS h10 ∧ Ends X (dp + 1) 0 1297 [.ref OLDB, .ref 0, .ref 93, .int i] [] h10 Q)) ∧ (condB .eq (X.2 (i + 2).toNatClampNeg) 0 = false → Ends X dp 116 0 [.ref 93, .int (X.2 (i + 1).toNatClampNeg), .int 1, .retAddr 0] [] h4 (fun rv h13 => ∃ r14, rv = some (.int r14) ∧ HS h13 ∧ Ends X (dp + 1) 0 1297 [.ref OLDB, .ref 0, .ref 93, .int i] [] h13 Q))))))) ∧ (condB .eq (X.2 (i + 2).toNatClampNeg) 0 = false → Ends X dp 66 0 [.ref 0, .int (X.2 (i + 1).toNatClampNeg), .int 1, .retAddr 0] [] h (fun rv h16 => ∃ r17, rv = some (.int r17) ∧ HS h16 ∧ (inB (i + 1) X.1 = true ∧ (inB (i + 2) X.1 = true ∧ ((condB .eq (X.2 (i + 2).toNatClampNeg) 0 = true → Ends X dp 116 0 [.ref 93, .int (X.2 (i + 1).toNatClampNeg), .int 0, .retAddr 0] [] h16 (fun rv h22 => ∃ r23, rv = some (.int r23) ∧ HS h22 ∧ Ends X (dp + 1) 0 1297 [.ref OLDB, .ref 0, .ref 93, .int i] [] h22 Q)) ∧ (condB .eq (X.2 (i + 2).toNatClampNeg) 0 = false → Ends X dp 116 0 [.ref 93, .int (X.2 (i + 1).toNatClampNeg), .int 1, .retAddr 0] [] h16 (fun rv h25 => ∃ r26, rv = some (.int r26) ∧ HS h25 ∧ Ends X (dp + 1) 0 1297 [.ref OLDB, .ref 0, .ref 93, .int i] [] h25 Q))))))))))) :
    Ends X (dp + 1) 0 331 [.ref OLDB, .ref 0, .ref 93, .int i] [] h Q := by
  have ra : ∀ {a : Nat}, a < 1000 → a ≤ OLDB := fun h => by have := OLDB_eq; omega
  refine e_aload_n (show pAt 0 331 = some (331, .aload_n 1, 1, []) from by decide +kernel) rfl (ra (by decide)) ?_
  refine e_aload_n (show pAt 0 332 = some (332, .aload_n 0, 1, []) from by decide +kernel) rfl (Nat.le_refl OLDB) ?_
  refine e_iload_n (show pAt 0 333 = some (333, .iload_n 3, 1, []) from by decide +kernel) rfl ?_
  refine e_iconst (c := 1) (show pAt 0 334 = some (334, .iconst 1, 1, []) from by decide +kernel) (by decide) ?_
  refine e_iadd (show pAt 0 335 = some (335, .iadd, 1, []) from by decide +kernel) ?_
  obtain ⟨c1, vc⟩ := vc
  refine e_sld (show pAt 0 336 = some (336, .iaload, 1, []) from by decide +kernel) c1 ?_
  refine e_aload_n (show pAt 0 337 = some (337, .aload_n 0, 1, []) from by decide +kernel) rfl (Nat.le_refl OLDB) ?_
  refine e_iload_n (show pAt 0 338 = some (338, .iload_n 3, 1, []) from by decide +kernel) rfl ?_
  refine e_iconst (c := 2) (show pAt 0 339 = some (339, .iconst 2, 1, []) from by decide +kernel) (by decide) ?_
  refine e_iadd (show pAt 0 340 = some (340, .iadd, 1, []) from by decide +kernel) ?_
  obtain ⟨c2, vc⟩ := vc
  refine e_sld (show pAt 0 341 = some (341, .iaload, 1, []) from by decide +kernel) c2 ?_
  refine e_if (t := 349) (show pAt 0 342 = some (342, .ifCond .eq 7, 3, []) from by decide +kernel) rfl (fun c3 => ?_) (fun c3 => ?_)
  · replace vc := vc.1 c3
    refine e_iconst (c := 0) (show pAt 0 349 = some (349, .iconst 0, 1, []) from by decide +kernel) (by decide) ?_
    refine Ends.call (show pAt 0 350 = some (350, .invokevirtual 28, 3, [66, 3, 0, 0, 2211, 2212, 2213]) from by decide +kernel) (isRet_none rfl) rfl (call_this (show HS h from hs) rfl rfl (by decide)) (Ends.mono vc ?_)
    rintro _ h4 ⟨r5, rfl, hs_h4, vc⟩
    refine e_pop (show pAt 0 353 = some (353, .pop, 1, []) from by decide +kernel) ?_
    refine e_aload_n (show pAt 0 354 = some (354, .aload_n 2, 1, []) from by decide +kernel) rfl (ra (by decide)) ?_
    refine e_aload_n (show pAt 0 355 = some (355, .aload_n 0, 1, []) from by decide +kernel) rfl (Nat.le_refl OLDB) ?_
    refine e_iload_n (show pAt 0 356 = some (356, .iload_n 3, 1, []) from by decide +kernel) rfl ?_
    refine e_iconst (c := 1) (show pAt 0 357 = some (357, .iconst 1, 1, []) from by decide +kernel) (by decide) ?_
    refine e_iadd (show pAt 0 358 = some (358, .iadd, 1, []) from by decide +kernel) ?_
    obtain ⟨c7, vc⟩ := vc
    refine e_sld (show pAt 0 359 = some (359, .iaload, 1, []) from by decide +kernel) c7 ?_
    refine e_aload_n (show pAt 0 360 = some (360, .aload_n 0, 1, []) from by decide +kernel) rfl (Nat.le_refl OLDB) ?_
    refine e_iload_n (show pAt 0 361 = some (361, .iload_n 3, 1, []) from by decide +kernel) rfl ?_
    refine e_iconst (c := 2) (show pAt 0 362 = some (362, .iconst 2, 1, []) from by decide +kernel) (by decide) ?_
    refine e_iadd (show pAt 0 363 = some (363, .iadd, 1, []) from by decide +kernel) ?_
    obtain ⟨c8, vc⟩ := vc
    refine e_sld (show pAt 0 364 = some (364, .iaload, 1, []) from by decide +kernel) c8 ?_
    refine e_if (t := 372) (show pAt 0 365 = some (365, .ifCond .eq 7, 3, []) from by decide +kernel) rfl (fun c9 => ?_) (fun c9 => ?_)
    · replace vc := vc.1 c9
      refine e_iconst (c := 0) (show pAt 0 372 = some (372, .iconst 0, 1, []) from by decide +kernel) (by decide) ?_
      refine Ends.call (show pAt 0 373 = some (373, .invokevirtual 32, 3, [116, 3, 0, 0, 5093, 5094, 5095]) from by decide +kernel) (isRet_none rfl) rfl (call_this (show HS h4 from hs_h4) rfl rfl (by decide)) (Ends.mono vc ?_)
      rintro _ h10 ⟨r11, rfl, hs_h10, vc⟩
      refine e_pop (show pAt 0 376 = some (376, .pop, 1, []) from by decide +kernel) ?_
      refine e_goto (t := 1297) (show pAt 0 377 = some (377, .goto 920, 3, []) from by decide +kernel) rfl ?_
      exact vc
    · replace vc := vc.2 c9
      refine e_iconst (c := 1) (show pAt 0 368 = some (368, .iconst 1, 1, []) from by decide +kernel) (by decide) ?_
      refine e_goto (t := 373) (show pAt 0 369 = some (369, .goto 4, 3, []) from by decide +kernel) rfl ?_
      refine Ends.call (show pAt 0 373 = some (373, .invokevirtual 32, 3, [116, 3, 0, 0, 5093, 5094, 5095]) from by decide +kernel) (isRet_none rfl) rfl (call_this (show HS h4 from hs_h4) rfl rfl (by decide)) (Ends.mono vc ?_)
      rintro _ h13 ⟨r14, rfl, hs_h13, vc⟩
      refine e_pop (show pAt 0 376 = some (376, .pop, 1, []) from by decide +kernel) ?_
      refine e_goto (t := 1297) (show pAt 0 377 = some (377, .goto 920, 3, []) from by decide +kernel) rfl ?_
      exact vc
  · replace vc := vc.2 c3
    refine e_iconst (c := 1) (show pAt 0 345 = some (345, .iconst 1, 1, []) from by decide +kernel) (by decide) ?_
    refine e_goto (t := 350) (show pAt 0 346 = some (346, .goto 4, 3, []) from by decide +kernel) rfl ?_
    refine Ends.call (show pAt 0 350 = some (350, .invokevirtual 28, 3, [66, 3, 0, 0, 2211, 2212, 2213]) from by decide +kernel) (isRet_none rfl) rfl (call_this (show HS h from hs) rfl rfl (by decide)) (Ends.mono vc ?_)
    rintro _ h16 ⟨r17, rfl, hs_h16, vc⟩
    refine e_pop (show pAt 0 353 = some (353, .pop, 1, []) from by decide +kernel) ?_
    refine e_aload_n (show pAt 0 354 = some (354, .aload_n 2, 1, []) from by decide +kernel) rfl (ra (by decide)) ?_
    refine e_aload_n (show pAt 0 355 = some (355, .aload_n 0, 1, []) from by decide +kernel) rfl (Nat.le_refl OLDB) ?_
    refine e_iload_n (show pAt 0 356 = some (356, .iload_n 3, 1, []) from by decide +kernel) rfl ?_
    refine e_iconst (c := 1) (show pAt 0 357 = some (357, .iconst 1, 1, []) from by decide +kernel) (by decide) ?_
    refine e_iadd (show pAt 0 358 = some (358, .iadd, 1, []) from by decide +kernel) ?_
    obtain ⟨c19, vc⟩ := vc
    refine e_sld (show pAt 0 359 = some (359, .iaload, 1, []) from by decide +kernel) c19 ?_
    refine e_aload_n (show pAt 0 360 = some (360, .aload_n 0, 1, []) from by decide +kernel) rfl (Nat.le_refl OLDB) ?_
    refine e_iload_n (show pAt 0 361 = some (361, .iload_n 3, 1, []) from by decide +kernel) rfl ?_
    refine e_iconst (c := 2) (show pAt 0 362 = some (362, .iconst 2, 1, []) from by decide +kernel) (by decide) ?_
    refine e_iadd (show pAt 0 363 = some (363, .iadd, 1, []) from by decide +kernel) ?_
    obtain ⟨c20, vc⟩ := vc
    refine e_sld (show pAt 0 364 = some (364, .iaload, 1, []) from by decide +kernel) c20 ?_
    refine e_if (t := 372) (show pAt 0 365 = some (365, .ifCond .eq 7, 3, []) from by decide +kernel) rfl (fun c21 => ?_) (fun c21 => ?_)
    · replace vc := vc.1 c21
      refine e_iconst (c := 0) (show pAt 0 372 = some (372, .iconst 0, 1, []) from by decide +kernel) (by decide) ?_
      refine Ends.call (show pAt 0 373 = some (373, .invokevirtual 32, 3, [116, 3, 0, 0, 5093, 5094, 5095]) from by decide +kernel) (isRet_none rfl) rfl (call_this (show HS h16 from hs_h16) rfl rfl (by decide)) (Ends.mono vc ?_)
      rintro _ h22 ⟨r23, rfl, hs_h22, vc⟩
      refine e_pop (show pAt 0 376 = some (376, .pop, 1, []) from by decide +kernel) ?_
      refine e_goto (t := 1297) (show pAt 0 377 = some (377, .goto 920, 3, []) from by decide +kernel) rfl ?_
      exact vc
    · replace vc := vc.2 c21
      refine e_iconst (c := 1) (show pAt 0 368 = some (368, .iconst 1, 1, []) from by decide +kernel) (by decide) ?_
      refine e_goto (t := 373) (show pAt 0 369 = some (369, .goto 4, 3, []) from by decide +kernel) rfl ?_
      refine Ends.call (show pAt 0 373 = some (373, .invokevirtual 32, 3, [116, 3, 0, 0, 5093, 5094, 5095]) from by decide +kernel) (isRet_none rfl) rfl (call_this (show HS h16 from hs_h16) rfl rfl (by decide)) (Ends.mono vc ?_)
      rintro _ h25 ⟨r26, rfl, hs_h25, vc⟩
      refine e_pop (show pAt 0 376 = some (376, .pop, 1, []) from by decide +kernel) ?_
      refine e_goto (t := 1297) (show pAt 0 377 = some (377, .goto 920, 3, []) from by decide +kernel) rfl ?_
      exact vc

theorem w_law4 {X : Scr} {dp : Nat} {h : Hp} {Q : Option Value → Hp → Prop} (i : Int32) (hs : HS h)
    (vc : (inB (i + 1) X.1 = true ∧ (inB (i + 2) X.1 = true ∧ (inB (i + 3) X.1 = true ∧ Ends X dp 67 0 [.ref 0, .int (X.2 (i + 1).toNatClampNeg), .int (X.2 (i + 2).toNatClampNeg), .int (X.2 (i + 3).toNatClampNeg), .retAddr 0] [] h (fun rv h4 => ∃ r5, rv = some (.int r5) ∧ HS h4 ∧ (inB (i + 1) X.1 = true ∧ (inB (i + 2) X.1 = true ∧ (inB (i + 3) X.1 = true ∧ Ends X dp 117 0 [.ref 93, .int (X.2 (i + 1).toNatClampNeg), .int (X.2 (i + 2).toNatClampNeg), .int (X.2 (i + 3).toNatClampNeg), .retAddr 0] [] h4 (fun rv h10 => ∃ r11, rv = some (.int r11) ∧ HS h10 ∧ Ends X (dp + 1) 0 1297 [.ref OLDB, .ref 0, .ref 93, .int i] [] h10 Q))))))))) :
    Ends X (dp + 1) 0 380 [.ref OLDB, .ref 0, .ref 93, .int i] [] h Q := by
  have ra : ∀ {a : Nat}, a < 1000 → a ≤ OLDB := fun h => by have := OLDB_eq; omega
  refine e_aload_n (show pAt 0 380 = some (380, .aload_n 1, 1, []) from by decide +kernel) rfl (ra (by decide)) ?_
  refine e_aload_n (show pAt 0 381 = some (381, .aload_n 0, 1, []) from by decide +kernel) rfl (Nat.le_refl OLDB) ?_
  refine e_iload_n (show pAt 0 382 = some (382, .iload_n 3, 1, []) from by decide +kernel) rfl ?_
  refine e_iconst (c := 1) (show pAt 0 383 = some (383, .iconst 1, 1, []) from by decide +kernel) (by decide) ?_
  refine e_iadd (show pAt 0 384 = some (384, .iadd, 1, []) from by decide +kernel) ?_
  obtain ⟨c1, vc⟩ := vc
  refine e_sld (show pAt 0 385 = some (385, .iaload, 1, []) from by decide +kernel) c1 ?_
  refine e_aload_n (show pAt 0 386 = some (386, .aload_n 0, 1, []) from by decide +kernel) rfl (Nat.le_refl OLDB) ?_
  refine e_iload_n (show pAt 0 387 = some (387, .iload_n 3, 1, []) from by decide +kernel) rfl ?_
  refine e_iconst (c := 2) (show pAt 0 388 = some (388, .iconst 2, 1, []) from by decide +kernel) (by decide) ?_
  refine e_iadd (show pAt 0 389 = some (389, .iadd, 1, []) from by decide +kernel) ?_
  obtain ⟨c2, vc⟩ := vc
  refine e_sld (show pAt 0 390 = some (390, .iaload, 1, []) from by decide +kernel) c2 ?_
  refine e_aload_n (show pAt 0 391 = some (391, .aload_n 0, 1, []) from by decide +kernel) rfl (Nat.le_refl OLDB) ?_
  refine e_iload_n (show pAt 0 392 = some (392, .iload_n 3, 1, []) from by decide +kernel) rfl ?_
  refine e_iconst (c := 3) (show pAt 0 393 = some (393, .iconst 3, 1, []) from by decide +kernel) (by decide) ?_
  refine e_iadd (show pAt 0 394 = some (394, .iadd, 1, []) from by decide +kernel) ?_
  obtain ⟨c3, vc⟩ := vc
  refine e_sld (show pAt 0 395 = some (395, .iaload, 1, []) from by decide +kernel) c3 ?_
  refine Ends.call (show pAt 0 396 = some (396, .invokevirtual 33, 3, [67, 4, 0, 0, 2215, 2216, 2217]) from by decide +kernel) (isRet_none rfl) rfl (call_this (show HS h from hs) rfl rfl (by decide)) (Ends.mono vc ?_)
  rintro _ h4 ⟨r5, rfl, hs_h4, vc⟩
  refine e_pop (show pAt 0 399 = some (399, .pop, 1, []) from by decide +kernel) ?_
  refine e_aload_n (show pAt 0 400 = some (400, .aload_n 2, 1, []) from by decide +kernel) rfl (ra (by decide)) ?_
  refine e_aload_n (show pAt 0 401 = some (401, .aload_n 0, 1, []) from by decide +kernel) rfl (Nat.le_refl OLDB) ?_
  refine e_iload_n (show pAt 0 402 = some (402, .iload_n 3, 1, []) from by decide +kernel) rfl ?_
  refine e_iconst (c := 1) (show pAt 0 403 = some (403, .iconst 1, 1, []) from by decide +kernel) (by decide) ?_
  refine e_iadd (show pAt 0 404 = some (404, .iadd, 1, []) from by decide +kernel) ?_
  obtain ⟨c7, vc⟩ := vc
  refine e_sld (show pAt 0 405 = some (405, .iaload, 1, []) from by decide +kernel) c7 ?_
  refine e_aload_n (show pAt 0 406 = some (406, .aload_n 0, 1, []) from by decide +kernel) rfl (Nat.le_refl OLDB) ?_
  refine e_iload_n (show pAt 0 407 = some (407, .iload_n 3, 1, []) from by decide +kernel) rfl ?_
  refine e_iconst (c := 2) (show pAt 0 408 = some (408, .iconst 2, 1, []) from by decide +kernel) (by decide) ?_
  refine e_iadd (show pAt 0 409 = some (409, .iadd, 1, []) from by decide +kernel) ?_
  obtain ⟨c8, vc⟩ := vc
  refine e_sld (show pAt 0 410 = some (410, .iaload, 1, []) from by decide +kernel) c8 ?_
  refine e_aload_n (show pAt 0 411 = some (411, .aload_n 0, 1, []) from by decide +kernel) rfl (Nat.le_refl OLDB) ?_
  refine e_iload_n (show pAt 0 412 = some (412, .iload_n 3, 1, []) from by decide +kernel) rfl ?_
  refine e_iconst (c := 3) (show pAt 0 413 = some (413, .iconst 3, 1, []) from by decide +kernel) (by decide) ?_
  refine e_iadd (show pAt 0 414 = some (414, .iadd, 1, []) from by decide +kernel) ?_
  obtain ⟨c9, vc⟩ := vc
  refine e_sld (show pAt 0 415 = some (415, .iaload, 1, []) from by decide +kernel) c9 ?_
  refine Ends.call (show pAt 0 416 = some (416, .invokevirtual 36, 3, [117, 4, 0, 0, 5097, 5098, 5099]) from by decide +kernel) (isRet_none rfl) rfl (call_this (show HS h4 from hs_h4) rfl rfl (by decide)) (Ends.mono vc ?_)
  rintro _ h10 ⟨r11, rfl, hs_h10, vc⟩
  refine e_pop (show pAt 0 419 = some (419, .pop, 1, []) from by decide +kernel) ?_
  refine e_goto (t := 1297) (show pAt 0 420 = some (420, .goto 877, 3, []) from by decide +kernel) rfl ?_
  exact vc

theorem w_law5 {X : Scr} {dp : Nat} {h : Hp} {Q : Option Value → Hp → Prop} (i : Int32) (hs : HS h)
    (vc : (inB (i + 1) X.1 = true ∧ Ends X dp 68 0 [.ref 0, .int (X.2 (i + 1).toNatClampNeg)] [] h (fun rv h2 => ∃ r3, rv = some (.int r3) ∧ HS h2 ∧ (inB (i + 1) X.1 = true ∧ Ends X dp 118 0 [.ref 93, .int (X.2 (i + 1).toNatClampNeg)] [] h2 (fun rv h6 => ∃ r7, rv = some (.int r7) ∧ HS h6 ∧ Ends X (dp + 1) 0 1297 [.ref OLDB, .ref 0, .ref 93, .int i] [] h6 Q))))) :
    Ends X (dp + 1) 0 423 [.ref OLDB, .ref 0, .ref 93, .int i] [] h Q := by
  have ra : ∀ {a : Nat}, a < 1000 → a ≤ OLDB := fun h => by have := OLDB_eq; omega
  refine e_aload_n (show pAt 0 423 = some (423, .aload_n 1, 1, []) from by decide +kernel) rfl (ra (by decide)) ?_
  refine e_aload_n (show pAt 0 424 = some (424, .aload_n 0, 1, []) from by decide +kernel) rfl (Nat.le_refl OLDB) ?_
  refine e_iload_n (show pAt 0 425 = some (425, .iload_n 3, 1, []) from by decide +kernel) rfl ?_
  refine e_iconst (c := 1) (show pAt 0 426 = some (426, .iconst 1, 1, []) from by decide +kernel) (by decide) ?_
  refine e_iadd (show pAt 0 427 = some (427, .iadd, 1, []) from by decide +kernel) ?_
  obtain ⟨c1, vc⟩ := vc
  refine e_sld (show pAt 0 428 = some (428, .iaload, 1, []) from by decide +kernel) c1 ?_
  refine Ends.call (show pAt 0 429 = some (429, .invokevirtual 37, 3, [68, 2, 0, 0, 2219, 2220, 2221]) from by decide +kernel) (isRet_none rfl) rfl (call_this (show HS h from hs) rfl rfl (by decide)) (Ends.mono vc ?_)
  rintro _ h2 ⟨r3, rfl, hs_h2, vc⟩
  refine e_pop (show pAt 0 432 = some (432, .pop, 1, []) from by decide +kernel) ?_
  refine e_aload_n (show pAt 0 433 = some (433, .aload_n 2, 1, []) from by decide +kernel) rfl (ra (by decide)) ?_
  refine e_aload_n (show pAt 0 434 = some (434, .aload_n 0, 1, []) from by decide +kernel) rfl (Nat.le_refl OLDB) ?_
  refine e_iload_n (show pAt 0 435 = some (435, .iload_n 3, 1, []) from by decide +kernel) rfl ?_
  refine e_iconst (c := 1) (show pAt 0 436 = some (436, .iconst 1, 1, []) from by decide +kernel) (by decide) ?_
  refine e_iadd (show pAt 0 437 = some (437, .iadd, 1, []) from by decide +kernel) ?_
  obtain ⟨c5, vc⟩ := vc
  refine e_sld (show pAt 0 438 = some (438, .iaload, 1, []) from by decide +kernel) c5 ?_
  refine Ends.call (show pAt 0 439 = some (439, .invokevirtual 41, 3, [118, 2, 0, 0, 5101, 5102, 5103]) from by decide +kernel) (isRet_none rfl) rfl (call_this (show HS h2 from hs_h2) rfl rfl (by decide)) (Ends.mono vc ?_)
  rintro _ h6 ⟨r7, rfl, hs_h6, vc⟩
  refine e_pop (show pAt 0 442 = some (442, .pop, 1, []) from by decide +kernel) ?_
  refine e_goto (t := 1297) (show pAt 0 443 = some (443, .goto 854, 3, []) from by decide +kernel) rfl ?_
  exact vc

theorem w_law6 {X : Scr} {dp : Nat} {h : Hp} {Q : Option Value → Hp → Prop} (i : Int32) (hs : HS h)
    (vc : Ends X dp 69 0 [.ref 0, .retAddr 0] [] h (fun rv h1 => ∃ r2, rv = some (.int r2) ∧ HS h1 ∧ Ends X dp 133 0 [.ref 93, .retAddr 0] [] h1 (fun rv h4 => ∃ r5, rv = some (.int r5) ∧ HS h4 ∧ Ends X (dp + 1) 0 1297 [.ref OLDB, .ref 0, .ref 93, .int i] [] h4 Q))) :
    Ends X (dp + 1) 0 446 [.ref OLDB, .ref 0, .ref 93, .int i] [] h Q := by
  have ra : ∀ {a : Nat}, a < 1000 → a ≤ OLDB := fun h => by have := OLDB_eq; omega
  refine e_aload_n (show pAt 0 446 = some (446, .aload_n 1, 1, []) from by decide +kernel) rfl (ra (by decide)) ?_
  refine Ends.call (show pAt 0 447 = some (447, .invokevirtual 42, 3, [69, 1, 0, 0, 2227, 2228, 2229]) from by decide +kernel) (isRet_none rfl) rfl (call_this (show HS h from hs) rfl rfl (by decide)) (Ends.mono vc ?_)
  rintro _ h1 ⟨r2, rfl, hs_h1, vc⟩
  refine e_pop (show pAt 0 450 = some (450, .pop, 1, []) from by decide +kernel) ?_
  refine e_aload_n (show pAt 0 451 = some (451, .aload_n 2, 1, []) from by decide +kernel) rfl (ra (by decide)) ?_
  refine Ends.call (show pAt 0 452 = some (452, .invokevirtual 46, 3, [133, 1, 0, 0, 5105, 5106, 5107]) from by decide +kernel) (isRet_none rfl) rfl (call_this (show HS h1 from hs_h1) rfl rfl (by decide)) (Ends.mono vc ?_)
  rintro _ h4 ⟨r5, rfl, hs_h4, vc⟩
  refine e_pop (show pAt 0 455 = some (455, .pop, 1, []) from by decide +kernel) ?_
  refine e_goto (t := 1297) (show pAt 0 456 = some (456, .goto 841, 3, []) from by decide +kernel) rfl ?_
  exact vc

theorem w_law7 {X : Scr} {dp : Nat} {h : Hp} {Q : Option Value → Hp → Prop} (i : Int32) (hs : HS h)
    (vc : (inB (i + 1) X.1 = true ∧ Ends X dp 70 0 [.ref 0, .int (X.2 (i + 1).toNatClampNeg)] [] h (fun rv h2 => ∃ r3, rv = some (.int r3) ∧ HS h2 ∧ (inB (i + 1) X.1 = true ∧ Ends X dp 150 0 [.ref 93, .int (X.2 (i + 1).toNatClampNeg)] [] h2 (fun rv h6 => ∃ r7, rv = some (.int r7) ∧ HS h6 ∧ Ends X (dp + 1) 0 1297 [.ref OLDB, .ref 0, .ref 93, .int i] [] h6 Q))))) :
    Ends X (dp + 1) 0 459 [.ref OLDB, .ref 0, .ref 93, .int i] [] h Q := by
  have ra : ∀ {a : Nat}, a < 1000 → a ≤ OLDB := fun h => by have := OLDB_eq; omega
  refine e_aload_n (show pAt 0 459 = some (459, .aload_n 1, 1, []) from by decide +kernel) rfl (ra (by decide)) ?_
  refine e_aload_n (show pAt 0 460 = some (460, .aload_n 0, 1, []) from by decide +kernel) rfl (Nat.le_refl OLDB) ?_
  refine e_iload_n (show pAt 0 461 = some (461, .iload_n 3, 1, []) from by decide +kernel) rfl ?_
  refine e_iconst (c := 1) (show pAt 0 462 = some (462, .iconst 1, 1, []) from by decide +kernel) (by decide) ?_
  refine e_iadd (show pAt 0 463 = some (463, .iadd, 1, []) from by decide +kernel) ?_
  obtain ⟨c1, vc⟩ := vc
  refine e_sld (show pAt 0 464 = some (464, .iaload, 1, []) from by decide +kernel) c1 ?_
  refine Ends.call (show pAt 0 465 = some (465, .invokevirtual 47, 3, [70, 2, 0, 0, 3159, 3160, 3161]) from by decide +kernel) (isRet_none rfl) rfl (call_this (show HS h from hs) rfl rfl (by decide)) (Ends.mono vc ?_)
  rintro _ h2 ⟨r3, rfl, hs_h2, vc⟩
  refine e_pop (show pAt 0 468 = some (468, .pop, 1, []) from by decide +kernel) ?_
  refine e_aload_n (show pAt 0 469 = some (469, .aload_n 2, 1, []) from by decide +kernel) rfl (ra (by decide)) ?_
  refine e_aload_n (show pAt 0 470 = some (470, .aload_n 0, 1, []) from by decide +kernel) rfl (Nat.le_refl OLDB) ?_
  refine e_iload_n (show pAt 0 471 = some (471, .iload_n 3, 1, []) from by decide +kernel) rfl ?_
  refine e_iconst (c := 1) (show pAt 0 472 = some (472, .iconst 1, 1, []) from by decide +kernel) (by decide) ?_
  refine e_iadd (show pAt 0 473 = some (473, .iadd, 1, []) from by decide +kernel) ?_
  obtain ⟨c5, vc⟩ := vc
  refine e_sld (show pAt 0 474 = some (474, .iaload, 1, []) from by decide +kernel) c5 ?_
  refine Ends.call (show pAt 0 475 = some (475, .invokevirtual 50, 3, [150, 2, 0, 0, 5233, 5234, 5235]) from by decide +kernel) (isRet_none rfl) rfl (call_this (show HS h2 from hs_h2) rfl rfl (by decide)) (Ends.mono vc ?_)
  rintro _ h6 ⟨r7, rfl, hs_h6, vc⟩
  refine e_pop (show pAt 0 478 = some (478, .pop, 1, []) from by decide +kernel) ?_
  refine e_goto (t := 1297) (show pAt 0 479 = some (479, .goto 818, 3, []) from by decide +kernel) rfl ?_
  exact vc

theorem w_law8 {X : Scr} {dp : Nat} {h : Hp} {Q : Option Value → Hp → Prop} (i : Int32) (hs : HS h)
    (vc : Ends X dp 71 0 [.ref 0, .retAddr 0] [] h (fun rv h1 => ∃ r2, rv = some (.int r2) ∧ HS h1 ∧ Ends X dp 159 0 [.ref 93] [] h1 (fun rv h4 => ∃ r5, rv = some (.int r5) ∧ HS h4 ∧ Ends X (dp + 1) 0 1297 [.ref OLDB, .ref 0, .ref 93, .int i] [] h4 Q))) :
    Ends X (dp + 1) 0 482 [.ref OLDB, .ref 0, .ref 93, .int i] [] h Q := by
  have ra : ∀ {a : Nat}, a < 1000 → a ≤ OLDB := fun h => by have := OLDB_eq; omega
  refine e_aload_n (show pAt 0 482 = some (482, .aload_n 1, 1, []) from by decide +kernel) rfl (ra (by decide)) ?_
  refine Ends.call (show pAt 0 483 = some (483, .invokevirtual 51, 3, [71, 1, 0, 0, 3164, 3165, 3166]) from by decide +kernel) (isRet_none rfl) rfl (call_this (show HS h from hs) rfl rfl (by decide)) (Ends.mono vc ?_)
  rintro _ h1 ⟨r2, rfl, hs_h1, vc⟩
  refine e_pop (show pAt 0 486 = some (486, .pop, 1, []) from by decide +kernel) ?_
  refine e_aload_n (show pAt 0 487 = some (487, .aload_n 2, 1, []) from by decide +kernel) rfl (ra (by decide)) ?_
  refine Ends.call (show pAt 0 488 = some (488, .invokevirtual 54, 3, [159, 1, 0, 0, 6001, 6002, 6003]) from by decide +kernel) (isRet_none rfl) rfl (call_this (show HS h1 from hs_h1) rfl rfl (by decide)) (Ends.mono vc ?_)
  rintro _ h4 ⟨r5, rfl, hs_h4, vc⟩
  refine e_pop (show pAt 0 491 = some (491, .pop, 1, []) from by decide +kernel) ?_
  refine e_goto (t := 1297) (show pAt 0 492 = some (492, .goto 805, 3, []) from by decide +kernel) rfl ?_
  exact vc

theorem w_law9 {X : Scr} {dp : Nat} {h : Hp} {Q : Option Value → Hp → Prop} (i : Int32) (hs : HS h)
    (vc : (inB (i + 1) X.1 = true ∧ (inB (i + 2) X.1 = true ∧ Ends X dp 72 0 [.ref 0, .int (X.2 (i + 1).toNatClampNeg), .int (X.2 (i + 2).toNatClampNeg), .retAddr 0, .retAddr 0] [] h (fun rv h3 => ∃ r4, rv = some (.int r4) ∧ HS h3 ∧ (inB (i + 1) X.1 = true ∧ (inB (i + 2) X.1 = true ∧ Ends X dp 162 0 [.ref 93, .int (X.2 (i + 1).toNatClampNeg), .int (X.2 (i + 2).toNatClampNeg), .retAddr 0, .retAddr 0] [] h3 (fun rv h8 => ∃ r9, rv = some (.int r9) ∧ HS h8 ∧ Ends X (dp + 1) 0 1297 [.ref OLDB, .ref 0, .ref 93, .int i] [] h8 Q))))))) :
    Ends X (dp + 1) 0 495 [.ref OLDB, .ref 0, .ref 93, .int i] [] h Q := by
  have ra : ∀ {a : Nat}, a < 1000 → a ≤ OLDB := fun h => by have := OLDB_eq; omega
  refine e_aload_n (show pAt 0 495 = some (495, .aload_n 1, 1, []) from by decide +kernel) rfl (ra (by decide)) ?_
  refine e_aload_n (show pAt 0 496 = some (496, .aload_n 0, 1, []) from by decide +kernel) rfl (Nat.le_refl OLDB) ?_
  refine e_iload_n (show pAt 0 497 = some (497, .iload_n 3, 1, []) from by decide +kernel) rfl ?_
  refine e_iconst (c := 1) (show pAt 0 498 = some (498, .iconst 1, 1, []) from by decide +kernel) (by decide) ?_
  refine e_iadd (show pAt 0 499 = some (499, .iadd, 1, []) from by decide +kernel) ?_
  obtain ⟨c1, vc⟩ := vc
  refine e_sld (show pAt 0 500 = some (500, .iaload, 1, []) from by decide +kernel) c1 ?_
  refine e_aload_n (show pAt 0 501 = some (501, .aload_n 0, 1, []) from by decide +kernel) rfl (Nat.le_refl OLDB) ?_
  refine e_iload_n (show pAt 0 502 = some (502, .iload_n 3, 1, []) from by decide +kernel) rfl ?_
  refine e_iconst (c := 2) (show pAt 0 503 = some (503, .iconst 2, 1, []) from by decide +kernel) (by decide) ?_
  refine e_iadd (show pAt 0 504 = some (504, .iadd, 1, []) from by decide +kernel) ?_
  obtain ⟨c2, vc⟩ := vc
  refine e_sld (show pAt 0 505 = some (505, .iaload, 1, []) from by decide +kernel) c2 ?_
  refine Ends.call (show pAt 0 506 = some (506, .invokevirtual 55, 3, [72, 3, 0, 0, 3168, 3169, 3170]) from by decide +kernel) (isRet_none rfl) rfl (call_this (show HS h from hs) rfl rfl (by decide)) (Ends.mono vc ?_)
  rintro _ h3 ⟨r4, rfl, hs_h3, vc⟩
  refine e_pop (show pAt 0 509 = some (509, .pop, 1, []) from by decide +kernel) ?_
  refine e_aload_n (show pAt 0 510 = some (510, .aload_n 2, 1, []) from by decide +kernel) rfl (ra (by decide)) ?_
  refine e_aload_n (show pAt 0 511 = some (511, .aload_n 0, 1, []) from by decide +kernel) rfl (Nat.le_refl OLDB) ?_
  refine e_iload_n (show pAt 0 512 = some (512, .iload_n 3, 1, []) from by decide +kernel) rfl ?_
  refine e_iconst (c := 1) (show pAt 0 513 = some (513, .iconst 1, 1, []) from by decide +kernel) (by decide) ?_
  refine e_iadd (show pAt 0 514 = some (514, .iadd, 1, []) from by decide +kernel) ?_
  obtain ⟨c6, vc⟩ := vc
  refine e_sld (show pAt 0 515 = some (515, .iaload, 1, []) from by decide +kernel) c6 ?_
  refine e_aload_n (show pAt 0 516 = some (516, .aload_n 0, 1, []) from by decide +kernel) rfl (Nat.le_refl OLDB) ?_
  refine e_iload_n (show pAt 0 517 = some (517, .iload_n 3, 1, []) from by decide +kernel) rfl ?_
  refine e_iconst (c := 2) (show pAt 0 518 = some (518, .iconst 2, 1, []) from by decide +kernel) (by decide) ?_
  refine e_iadd (show pAt 0 519 = some (519, .iadd, 1, []) from by decide +kernel) ?_
  obtain ⟨c7, vc⟩ := vc
  refine e_sld (show pAt 0 520 = some (520, .iaload, 1, []) from by decide +kernel) c7 ?_
  refine Ends.call (show pAt 0 521 = some (521, .invokevirtual 58, 3, [162, 3, 0, 0, 6037, 6038, 6039]) from by decide +kernel) (isRet_none rfl) rfl (call_this (show HS h3 from hs_h3) rfl rfl (by decide)) (Ends.mono vc ?_)
  rintro _ h8 ⟨r9, rfl, hs_h8, vc⟩
  refine e_pop (show pAt 0 524 = some (524, .pop, 1, []) from by decide +kernel) ?_
  refine e_goto (t := 1297) (show pAt 0 525 = some (525, .goto 772, 3, []) from by decide +kernel) rfl ?_
  exact vc

theorem w_law10 {X : Scr} {dp : Nat} {h : Hp} {Q : Option Value → Hp → Prop} (i : Int32) (hs : HS h)
    (vc : (inB (i + 1) X.1 = true ∧ Ends X dp 73 0 [.ref 0, .int (X.2 (i + 1).toNatClampNeg), .retAddr 0, .retAddr 0] [] h (fun rv h2 => ∃ r3, rv = some (.int r3) ∧ HS h2 ∧ (inB (i + 1) X.1 = true ∧ Ends X dp 164 0 [.ref 93, .int (X.2 (i + 1).toNatClampNeg), .retAddr 0, .retAddr 0] [] h2 (fun rv h6 => ∃ r7, rv = some (.int r7) ∧ HS h6 ∧ Ends X (dp + 1) 0 1297 [.ref OLDB, .ref 0, .ref 93, .int i] [] h6 Q))))) :
    Ends X (dp + 1) 0 528 [.ref OLDB, .ref 0, .ref 93, .int i] [] h Q := by
  have ra : ∀ {a : Nat}, a < 1000 → a ≤ OLDB := fun h => by have := OLDB_eq; omega
  refine e_aload_n (show pAt 0 528 = some (528, .aload_n 1, 1, []) from by decide +kernel) rfl (ra (by decide)) ?_
  refine e_aload_n (show pAt 0 529 = some (529, .aload_n 0, 1, []) from by decide +kernel) rfl (Nat.le_refl OLDB) ?_
  refine e_iload_n (show pAt 0 530 = some (530, .iload_n 3, 1, []) from by decide +kernel) rfl ?_
  refine e_iconst (c := 1) (show pAt 0 531 = some (531, .iconst 1, 1, []) from by decide +kernel) (by decide) ?_
  refine e_iadd (show pAt 0 532 = some (532, .iadd, 1, []) from by decide +kernel) ?_
  obtain ⟨c1, vc⟩ := vc
  refine e_sld (show pAt 0 533 = some (533, .iaload, 1, []) from by decide +kernel) c1 ?_
  refine Ends.call (show pAt 0 534 = some (534, .invokevirtual 59, 3, [73, 2, 0, 0, 3178, 3179, 3180]) from by decide +kernel) (isRet_none rfl) rfl (call_this (show HS h from hs) rfl rfl (by decide)) (Ends.mono vc ?_)
  rintro _ h2 ⟨r3, rfl, hs_h2, vc⟩
  refine e_pop (show pAt 0 537 = some (537, .pop, 1, []) from by decide +kernel) ?_
  refine e_aload_n (show pAt 0 538 = some (538, .aload_n 2, 1, []) from by decide +kernel) rfl (ra (by decide)) ?_
  refine e_aload_n (show pAt 0 539 = some (539, .aload_n 0, 1, []) from by decide +kernel) rfl (Nat.le_refl OLDB) ?_
  refine e_iload_n (show pAt 0 540 = some (540, .iload_n 3, 1, []) from by decide +kernel) rfl ?_
  refine e_iconst (c := 1) (show pAt 0 541 = some (541, .iconst 1, 1, []) from by decide +kernel) (by decide) ?_
  refine e_iadd (show pAt 0 542 = some (542, .iadd, 1, []) from by decide +kernel) ?_
  obtain ⟨c5, vc⟩ := vc
  refine e_sld (show pAt 0 543 = some (543, .iaload, 1, []) from by decide +kernel) c5 ?_
  refine Ends.call (show pAt 0 544 = some (544, .invokevirtual 62, 3, [164, 2, 0, 0, 6053, 6054, 6055]) from by decide +kernel) (isRet_none rfl) rfl (call_this (show HS h2 from hs_h2) rfl rfl (by decide)) (Ends.mono vc ?_)
  rintro _ h6 ⟨r7, rfl, hs_h6, vc⟩
  refine e_pop (show pAt 0 547 = some (547, .pop, 1, []) from by decide +kernel) ?_
  refine e_goto (t := 1297) (show pAt 0 548 = some (548, .goto 749, 3, []) from by decide +kernel) rfl ?_
  exact vc

theorem w_law11 {X : Scr} {dp : Nat} {h : Hp} {Q : Option Value → Hp → Prop} (i : Int32) (hs : HS h)
    (vc : (inB (i + 1) X.1 = true ∧ Ends X dp 74 0 [.ref 0, .int (X.2 (i + 1).toNatClampNeg), .retAddr 0, .retAddr 0, .retAddr 0, .retAddr 0, .retAddr 0] [] h (fun rv h2 => ∃ r3, rv = some (.int r3) ∧ HS h2 ∧ (inB (i + 1) X.1 = true ∧ Ends X dp 165 0 [.ref 93, .int (X.2 (i + 1).toNatClampNeg), .retAddr 0, .retAddr 0, .retAddr 0, .retAddr 0] [] h2 (fun rv h6 => ∃ r7, rv = some (.int r7) ∧ HS h6 ∧ Ends X (dp + 1) 0 1297 [.ref OLDB, .ref 0, .ref 93, .int i] [] h6 Q))))) :
    Ends X (dp + 1) 0 551 [.ref OLDB, .ref 0, .ref 93, .int i] [] h Q := by
  have ra : ∀ {a : Nat}, a < 1000 → a ≤ OLDB := fun h => by have := OLDB_eq; omega
  refine e_aload_n (show pAt 0 551 = some (551, .aload_n 1, 1, []) from by decide +kernel) rfl (ra (by decide)) ?_
  refine e_aload_n (show pAt 0 552 = some (552, .aload_n 0, 1, []) from by decide +kernel) rfl (Nat.le_refl OLDB) ?_
  refine e_iload_n (show pAt 0 553 = some (553, .iload_n 3, 1, []) from by decide +kernel) rfl ?_
  refine e_iconst (c := 1) (show pAt 0 554 = some (554, .iconst 1, 1, []) from by decide +kernel) (by decide) ?_
  refine e_iadd (show pAt 0 555 = some (555, .iadd, 1, []) from by decide +kernel) ?_
  obtain ⟨c1, vc⟩ := vc
  refine e_sld (show pAt 0 556 = some (556, .iaload, 1, []) from by decide +kernel) c1 ?_
  refine Ends.call (show pAt 0 557 = some (557, .invokevirtual 63, 3, [74, 2, 0, 0, 3186, 3187, 3188]) from by decide +kernel) (isRet_none rfl) rfl (call_this (show HS h from hs) rfl rfl (by decide)) (Ends.mono vc ?_)
  rintro _ h2 ⟨r3, rfl, hs_h2, vc⟩
  refine e_pop (show pAt 0 560 = some (560, .pop, 1, []) from by decide +kernel) ?_
  refine e_aload_n (show pAt 0 561 = some (561, .aload_n 2, 1, []) from by decide +kernel) rfl (ra (by decide)) ?_
  refine e_aload_n (show pAt 0 562 = some (562, .aload_n 0, 1, []) from by decide +kernel) rfl (Nat.le_refl OLDB) ?_
  refine e_iload_n (show pAt 0 563 = some (563, .iload_n 3, 1, []) from by decide +kernel) rfl ?_
  refine e_iconst (c := 1) (show pAt 0 564 = some (564, .iconst 1, 1, []) from by decide +kernel) (by decide) ?_
  refine e_iadd (show pAt 0 565 = some (565, .iadd, 1, []) from by decide +kernel) ?_
  obtain ⟨c5, vc⟩ := vc
  refine e_sld (show pAt 0 566 = some (566, .iaload, 1, []) from by decide +kernel) c5 ?_
  refine Ends.call (show pAt 0 567 = some (567, .invokevirtual 66, 3, [165, 2, 0, 0, 6061, 6062, 6063]) from by decide +kernel) (isRet_none rfl) rfl (call_this (show HS h2 from hs_h2) rfl rfl (by decide)) (Ends.mono vc ?_)
  rintro _ h6 ⟨r7, rfl, hs_h6, vc⟩
  refine e_pop (show pAt 0 570 = some (570, .pop, 1, []) from by decide +kernel) ?_
  refine e_goto (t := 1297) (show pAt 0 571 = some (571, .goto 726, 3, []) from by decide +kernel) rfl ?_
  exact vc

theorem w_law12 {X : Scr} {dp : Nat} {h : Hp} {Q : Option Value → Hp → Prop} (i : Int32) (hs : HS h)
    (vc : (inB (i + 1) X.1 = true ∧ (inB (i + 2) X.1 = true ∧ Ends X dp 75 0 [.ref 0, .int (X.2 (i + 1).toNatClampNeg), .int (X.2 (i + 2).toNatClampNeg), .retAddr 0, .retAddr 0, .retAddr 0, .retAddr 0] [] h (fun rv h3 => ∃ r4, rv = some (.int r4) ∧ HS h3 ∧ (inB (i + 1) X.1 = true ∧ (inB (i + 2) X.1 = true ∧ Ends X dp 166 0 [.ref 93, .int (X.2 (i + 1).toNatClampNeg), .int (X.2 (i + 2).toNatClampNeg), .retAddr 0, .retAddr 0, .retAddr 0, .retAddr 0, .retAddr 0] [] h3 (fun rv h8 => ∃ r9, rv = some (.int r9) ∧ HS h8 ∧ Ends X (dp + 1) 0 1297 [.ref OLDB, .ref 0, .ref 93, .int i] [] h8 Q))))))) :
    Ends X (dp + 1) 0 574 [.ref OLDB, .ref 0, .ref 93, .int i] [] h Q := by
  have ra : ∀ {a : Nat}, a < 1000 → a ≤ OLDB := fun h => by have := OLDB_eq; omega
  refine e_aload_n (show pAt 0 574 = some (574, .aload_n 1, 1, []) from by decide +kernel) rfl (ra (by decide)) ?_
  refine e_aload_n (show pAt 0 575 = some (575, .aload_n 0, 1, []) from by decide +kernel) rfl (Nat.le_refl OLDB) ?_
  refine e_iload_n (show pAt 0 576 = some (576, .iload_n 3, 1, []) from by decide +kernel) rfl ?_
  refine e_iconst (c := 1) (show pAt 0 577 = some (577, .iconst 1, 1, []) from by decide +kernel) (by decide) ?_
  refine e_iadd (show pAt 0 578 = some (578, .iadd, 1, []) from by decide +kernel) ?_
  obtain ⟨c1, vc⟩ := vc
  refine e_sld (show pAt 0 579 = some (579, .iaload, 1, []) from by decide +kernel) c1 ?_
  refine e_aload_n (show pAt 0 580 = some (580, .aload_n 0, 1, []) from by decide +kernel) rfl (Nat.le_refl OLDB) ?_
  refine e_iload_n (show pAt 0 581 = some (581, .iload_n 3, 1, []) from by decide +kernel) rfl ?_
  refine e_iconst (c := 2) (show pAt 0 582 = some (582, .iconst 2, 1, []) from by decide +kernel) (by decide) ?_
  refine e_iadd (show pAt 0 583 = some (583, .iadd, 1, []) from by decide +kernel) ?_
  obtain ⟨c2, vc⟩ := vc
  refine e_sld (show pAt 0 584 = some (584, .iaload, 1, []) from by decide +kernel) c2 ?_
  refine Ends.call (show pAt 0 585 = some (585, .invokevirtual 67, 3, [75, 3, 0, 0, 3190, 3191, 3192]) from by decide +kernel) (isRet_none rfl) rfl (call_this (show HS h from hs) rfl rfl (by decide)) (Ends.mono vc ?_)
  rintro _ h3 ⟨r4, rfl, hs_h3, vc⟩
  refine e_pop (show pAt 0 588 = some (588, .pop, 1, []) from by decide +kernel) ?_
  refine e_aload_n (show pAt 0 589 = some (589, .aload_n 2, 1, []) from by decide +kernel) rfl (ra (by decide)) ?_
  refine e_aload_n (show pAt 0 590 = some (590, .aload_n 0, 1, []) from by decide +kernel) rfl (Nat.le_refl OLDB) ?_
  refine e_iload_n (show pAt 0 591 = some (591, .iload_n 3, 1, []) from by decide +kernel) rfl ?_
  refine e_iconst (c := 1) (show pAt 0 592 = some (592, .iconst 1, 1, []) from by decide +kernel) (by decide) ?_
  refine e_iadd (show pAt 0 593 = some (593, .iadd, 1, []) from by decide +kernel) ?_
  obtain ⟨c6, vc⟩ := vc
  refine e_sld (show pAt 0 594 = some (594, .iaload, 1, []) from by decide +kernel) c6 ?_
  refine e_aload_n (show pAt 0 595 = some (595, .aload_n 0, 1, []) from by decide +kernel) rfl (Nat.le_refl OLDB) ?_
  refine e_iload_n (show pAt 0 596 = some (596, .iload_n 3, 1, []) from by decide +kernel) rfl ?_
  refine e_iconst (c := 2) (show pAt 0 597 = some (597, .iconst 2, 1, []) from by decide +kernel) (by decide) ?_
  refine e_iadd (show pAt 0 598 = some (598, .iadd, 1, []) from by decide +kernel) ?_
  obtain ⟨c7, vc⟩ := vc
  refine e_sld (show pAt 0 599 = some (599, .iaload, 1, []) from by decide +kernel) c7 ?_
  refine Ends.call (show pAt 0 600 = some (600, .invokevirtual 70, 3, [166, 3, 0, 0, 6065, 6066, 6067]) from by decide +kernel) (isRet_none rfl) rfl (call_this (show HS h3 from hs_h3) rfl rfl (by decide)) (Ends.mono vc ?_)
  rintro _ h8 ⟨r9, rfl, hs_h8, vc⟩
  refine e_pop (show pAt 0 603 = some (603, .pop, 1, []) from by decide +kernel) ?_
  refine e_goto (t := 1297) (show pAt 0 604 = some (604, .goto 693, 3, []) from by decide +kernel) rfl ?_
  exact vc

theorem w_law13 {X : Scr} {dp : Nat} {h : Hp} {Q : Option Value → Hp → Prop} (i : Int32) (hs : HS h)
    (vc : (inB (i + 1) X.1 = true ∧ Ends X dp 76 0 [.ref 0, .int (X.2 (i + 1).toNatClampNeg), .retAddr 0, .retAddr 0] [] h (fun rv h2 => ∃ r3, rv = some (.int r3) ∧ HS h2 ∧ (inB (i + 1) X.1 = true ∧ Ends X dp 167 0 [.ref 93, .int (X.2 (i + 1).toNatClampNeg), .retAddr 0, .retAddr 0] [] h2 (fun rv h6 => ∃ r7, rv = some (.int r7) ∧ HS h6 ∧ Ends X (dp + 1) 0 1297 [.ref OLDB, .ref 0, .ref 93, .int i] [] h6 Q))))) :
    Ends X (dp + 1) 0 607 [.ref OLDB, .ref 0, .ref 93, .int i] [] h Q := by
  have ra : ∀ {a : Nat}, a < 1000 → a ≤ OLDB := fun h => by have := OLDB_eq; omega
  refine e_aload_n (show pAt 0 607 = some (607, .aload_n 1, 1, []) from by decide +kernel) rfl (ra (by decide)) ?_
  refine e_aload_n (show pAt 0 608 = some (608, .aload_n 0, 1, []) from by decide +kernel) rfl (Nat.le_refl OLDB) ?_
  refine e_iload_n (show pAt 0 609 = some (609, .iload_n 3, 1, []) from by decide +kernel) rfl ?_
  refine e_iconst (c := 1) (show pAt 0 610 = some (610, .iconst 1, 1, []) from by decide +kernel) (by decide) ?_
  refine e_iadd (show pAt 0 611 = some (611, .iadd, 1, []) from by decide +kernel) ?_
  obtain ⟨c1, vc⟩ := vc
  refine e_sld (show pAt 0 612 = some (612, .iaload, 1, []) from by decide +kernel) c1 ?_
  refine Ends.call (show pAt 0 613 = some (613, .invokevirtual 71, 3, [76, 2, 0, 0, 3198, 3199, 3200]) from by decide +kernel) (isRet_none rfl) rfl (call_this (show HS h from hs) rfl rfl (by decide)) (Ends.mono vc ?_)
  rintro _ h2 ⟨r3, rfl, hs_h2, vc⟩
  refine e_pop (show pAt 0 616 = some (616, .pop, 1, []) from by decide +kernel) ?_
  refine e_aload_n (show pAt 0 617 = some (617, .aload_n 2, 1, []) from by decide +kernel) rfl (ra (by decide)) ?_
  refine e_aload_n (show pAt 0 618 = some (618, .aload_n 0, 1, []) from by decide +kernel) rfl (Nat.le_refl OLDB) ?_
  refine e_iload_n (show pAt 0 619 = some (619, .iload_n 3, 1, []) from by decide +kernel) rfl ?_
  refine e_iconst (c := 1) (show pAt 0 620 = some (620, .iconst 1, 1, []) from by decide +kernel) (by decide) ?_
  refine e_iadd (show pAt 0 621 = some (621, .iadd, 1, []) from by decide +kernel) ?_
  obtain ⟨c5, vc⟩ := vc
  refine e_sld (show pAt 0 622 = some (622, .iaload, 1, []) from by decide +kernel) c5 ?_
  refine Ends.call (show pAt 0 623 = some (623, .invokevirtual 74, 3, [167, 2, 0, 0, 6069, 6070, 6071]) from by decide +kernel) (isRet_none rfl) rfl (call_this (show HS h2 from hs_h2) rfl rfl (by decide)) (Ends.mono vc ?_)
  rintro _ h6 ⟨r7, rfl, hs_h6, vc⟩
  refine e_pop (show pAt 0 626 = some (626, .pop, 1, []) from by decide +kernel) ?_
  refine e_goto (t := 1297) (show pAt 0 627 = some (627, .goto 670, 3, []) from by decide +kernel) rfl ?_
  exact vc

theorem w_law14 {X : Scr} {dp : Nat} {h : Hp} {Q : Option Value → Hp → Prop} (i : Int32) (hs : HS h)
    (vc : (inB (i + 1) X.1 = true ∧ Ends X dp 77 0 [.ref 0, .int (X.2 (i + 1).toNatClampNeg), .retAddr 0] [] h (fun rv h2 => ∃ r3, rv = some (.int r3) ∧ HS h2 ∧ (inB (i + 1) X.1 = true ∧ Ends X dp 168 0 [.ref 93, .int (X.2 (i + 1).toNatClampNeg), .retAddr 0, .retAddr 0, .retAddr 0] [] h2 (fun rv h6 => ∃ r7, rv = some (.int r7) ∧ HS h6 ∧ Ends X (dp + 1) 0 1297 [.ref OLDB, .ref 0, .ref 93, .int i] [] h6 Q))))) :
    Ends X (dp + 1) 0 630 [.ref OLDB, .ref 0, .ref 93, .int i] [] h Q := by
  have ra : ∀ {a : Nat}, a < 1000 → a ≤ OLDB := fun h => by have := OLDB_eq; omega
  refine e_aload_n (show pAt 0 630 = some (630, .aload_n 1, 1, []) from by decide +kernel) rfl (ra (by decide)) ?_
  refine e_aload_n (show pAt 0 631 = some (631, .aload_n 0, 1, []) from by decide +kernel) rfl (Nat.le_refl OLDB) ?_
  refine e_iload_n (show pAt 0 632 = some (632, .iload_n 3, 1, []) from by decide +kernel) rfl ?_
  refine e_iconst (c := 1) (show pAt 0 633 = some (633, .iconst 1, 1, []) from by decide +kernel) (by decide) ?_
  refine e_iadd (show pAt 0 634 = some (634, .iadd, 1, []) from by decide +kernel) ?_
  obtain ⟨c1, vc⟩ := vc
  refine e_sld (show pAt 0 635 = some (635, .iaload, 1, []) from by decide +kernel) c1 ?_
  refine Ends.call (show pAt 0 636 = some (636, .invokevirtual 75, 3, [77, 2, 0, 0, 3206, 3207, 3208]) from by decide +kernel) (isRet_none rfl) rfl (call_this (show HS h from hs) rfl rfl (by decide)) (Ends.mono vc ?_)
  rintro _ h2 ⟨r3, rfl, hs_h2, vc⟩
  refine e_pop (show pAt 0 639 = some (639, .pop, 1, []) from by decide +kernel) ?_
  refine e_aload_n (show pAt 0 640 = some (640, .aload_n 2, 1, []) from by decide +kernel) rfl (ra (by decide)) ?_
  refine e_aload_n (show pAt 0 641 = some (641, .aload_n 0, 1, []) from by decide +kernel) rfl (Nat.le_refl OLDB) ?_
  refine e_iload_n (show pAt 0 642 = some (642, .iload_n 3, 1, []) from by decide +kernel) rfl ?_
  refine e_iconst (c := 1) (show pAt 0 643 = some (643, .iconst 1, 1, []) from by decide +kernel) (by decide) ?_
  refine e_iadd (show pAt 0 644 = some (644, .iadd, 1, []) from by decide +kernel) ?_
  obtain ⟨c5, vc⟩ := vc
  refine e_sld (show pAt 0 645 = some (645, .iaload, 1, []) from by decide +kernel) c5 ?_
  refine Ends.call (show pAt 0 646 = some (646, .invokevirtual 78, 3, [168, 2, 0, 0, 6073, 6074, 6075]) from by decide +kernel) (isRet_none rfl) rfl (call_this (show HS h2 from hs_h2) rfl rfl (by decide)) (Ends.mono vc ?_)
  rintro _ h6 ⟨r7, rfl, hs_h6, vc⟩
  refine e_pop (show pAt 0 649 = some (649, .pop, 1, []) from by decide +kernel) ?_
  refine e_goto (t := 1297) (show pAt 0 650 = some (650, .goto 647, 3, []) from by decide +kernel) rfl ?_
  exact vc

theorem w_law15 {X : Scr} {dp : Nat} {h : Hp} {Q : Option Value → Hp → Prop} (i : Int32) (hs : HS h)
    (vc : Ends X dp 78 0 [.ref 0] [] h (fun rv h1 => ∃ r2, rv = some (.int r2) ∧ HS h1 ∧ Ends X dp 169 0 [.ref 93, .retAddr 0] [] h1 (fun rv h4 => ∃ r5, rv = some (.int r5) ∧ HS h4 ∧ Ends X (dp + 1) 0 1297 [.ref OLDB, .ref 0, .ref 93, .int i] [] h4 Q))) :
    Ends X (dp + 1) 0 653 [.ref OLDB, .ref 0, .ref 93, .int i] [] h Q := by
  have ra : ∀ {a : Nat}, a < 1000 → a ≤ OLDB := fun h => by have := OLDB_eq; omega
  refine e_aload_n (show pAt 0 653 = some (653, .aload_n 1, 1, []) from by decide +kernel) rfl (ra (by decide)) ?_
  refine Ends.call (show pAt 0 654 = some (654, .invokevirtual 79, 3, [78, 1, 0, 0, 3210, 3211, 3212]) from by decide +kernel) (isRet_none rfl) rfl (call_this (show HS h from hs) rfl rfl (by decide)) (Ends.mono vc ?_)
  rintro _ h1 ⟨r2, rfl, hs_h1, vc⟩
  refine e_pop (show pAt 0 657 = some (657, .pop, 1, []) from by decide +kernel) ?_
  refine e_aload_n (show pAt 0 658 = some (658, .aload_n 2, 1, []) from by decide +kernel) rfl (ra (by decide)) ?_
  refine Ends.call (show pAt 0 659 = some (659, .invokevirtual 82, 3, [169, 1, 0, 0, 6077, 6078, 6079]) from by decide +kernel) (isRet_none rfl) rfl (call_this (show HS h1 from hs_h1) rfl rfl (by decide)) (Ends.mono vc ?_)
  rintro _ h4 ⟨r5, rfl, hs_h4, vc⟩
  refine e_pop (show pAt 0 662 = some (662, .pop, 1, []) from by decide +kernel) ?_
  refine e_goto (t := 1297) (show pAt 0 663 = some (663, .goto 634, 3, []) from by decide +kernel) rfl ?_
  exact vc

theorem w_law16 {X : Scr} {dp : Nat} {h : Hp} {Q : Option Value → Hp → Prop} (i : Int32) (hs : HS h)
    (vc : (inB (i + 1) X.1 = true ∧ Ends X dp 79 0 [.ref 0, .int (X.2 (i + 1).toNatClampNeg)] [] h (fun rv h2 => ∃ r3, rv = some (.int r3) ∧ HS h2 ∧ (inB (i + 1) X.1 = true ∧ Ends X dp 170 0 [.ref 93, .int (X.2 (i + 1).toNatClampNeg), .retAddr 0, .retAddr 0] [] h2 (fun rv h6 => ∃ r7, rv = some (.int r7) ∧ HS h6 ∧ Ends X (dp + 1) 0 1297 [.ref OLDB, .ref 0, .ref 93, .int i] [] h6 Q))))) :
    Ends X (dp + 1) 0 666 [.ref OLDB, .ref 0, .ref 93, .int i] [] h Q := by
  have ra : ∀ {a : Nat}, a < 1000 → a ≤ OLDB := fun h => by have := OLDB_eq; omega
  refine e_aload_n (show pAt 0 666 = some (666, .aload_n 1, 1, []) from by decide +kernel) rfl (ra (by decide)) ?_
  refine e_aload_n (show pAt 0 667 = some (667, .aload_n 0, 1, []) from by decide +kernel) rfl (Nat.le_refl OLDB) ?_
  refine e_iload_n (show pAt 0 668 = some (668, .iload_n 3, 1, []) from by decide +kernel) rfl ?_
  refine e_iconst (c := 1) (show pAt 0 669 = some (669, .iconst 1, 1, []) from by decide +kernel) (by decide) ?_
  refine e_iadd (show pAt 0 670 = some (670, .iadd, 1, []) from by decide +kernel) ?_
  obtain ⟨c1, vc⟩ := vc
  refine e_sld (show pAt 0 671 = some (671, .iaload, 1, []) from by decide +kernel) c1 ?_
  refine Ends.call (show pAt 0 672 = some (672, .invokevirtual 83, 3, [79, 2, 0, 0, 3214, 3215, 3216]) from by decide +kernel) (isRet_none rfl) rfl (call_this (show HS h from hs) rfl rfl (by decide)) (Ends.mono vc ?_)
  rintro _ h2 ⟨r3, rfl, hs_h2, vc⟩
  refine e_pop (show pAt 0 675 = some (675, .pop, 1, []) from by decide +kernel) ?_
  refine e_aload_n (show pAt 0 676 = some (676, .aload_n 2, 1, []) from by decide +kernel) rfl (ra (by decide)) ?_
  refine e_aload_n (show pAt 0 677 = some (677, .aload_n 0, 1, []) from by decide +kernel) rfl (Nat.le_refl OLDB) ?_
  refine e_iload_n (show pAt 0 678 = some (678, .iload_n 3, 1, []) from by decide +kernel) rfl ?_
  refine e_iconst (c := 1) (show pAt 0 679 = some (679, .iconst 1, 1, []) from by decide +kernel) (by decide) ?_
  refine e_iadd (show pAt 0 680 = some (680, .iadd, 1, []) from by decide +kernel) ?_
  obtain ⟨c5, vc⟩ := vc
  refine e_sld (show pAt 0 681 = some (681, .iaload, 1, []) from by decide +kernel) c5 ?_
  refine Ends.call (show pAt 0 682 = some (682, .invokevirtual 86, 3, [170, 2, 0, 0, 6081, 6082, 6083]) from by decide +kernel) (isRet_none rfl) rfl (call_this (show HS h2 from hs_h2) rfl rfl (by decide)) (Ends.mono vc ?_)
  rintro _ h6 ⟨r7, rfl, hs_h6, vc⟩
  refine e_pop (show pAt 0 685 = some (685, .pop, 1, []) from by decide +kernel) ?_
  refine e_goto (t := 1297) (show pAt 0 686 = some (686, .goto 611, 3, []) from by decide +kernel) rfl ?_
  exact vc

theorem w_law17 {X : Scr} {dp : Nat} {h : Hp} {Q : Option Value → Hp → Prop} (i : Int32) (hs : HS h)
    (vc : (inB (i + 1) X.1 = true ∧ Ends X dp 80 0 [.ref 0, .int (X.2 (i + 1).toNatClampNeg), .retAddr 0, .retAddr 0, .retAddr 0, .retAddr 0, .retAddr 0, .retAddr 0] [] h (fun rv h2 => ∃ r3, rv = some (.int r3) ∧ HS h2 ∧ (inB (i + 1) X.1 = true ∧ Ends X dp 173 0 [.ref 93, .int (X.2 (i + 1).toNatClampNeg), .retAddr 0, .retAddr 0, .retAddr 0, .retAddr 0, .retAddr 0] [] h2 (fun rv h6 => ∃ r7, rv = some (.int r7) ∧ HS h6 ∧ Ends X (dp + 1) 0 1297 [.ref OLDB, .ref 0, .ref 93, .int i] [] h6 Q))))) :
    Ends X (dp + 1) 0 689 [.ref OLDB, .ref 0, .ref 93, .int i] [] h Q := by
  have ra : ∀ {a : Nat}, a < 1000 → a ≤ OLDB := fun h => by have := OLDB_eq; omega
  refine e_aload_n (show pAt 0 689 = some (689, .aload_n 1, 1, []) from by decide +kernel) rfl (ra (by decide)) ?_
  refine e_aload_n (show pAt 0 690 = some (690, .aload_n 0, 1, []) from by decide +kernel) rfl (Nat.le_refl OLDB) ?_
  refine e_iload_n (show pAt 0 691 = some (691, .iload_n 3, 1, []) from by decide +kernel) rfl ?_
  refine e_iconst (c := 1) (show pAt 0 692 = some (692, .iconst 1, 1, []) from by decide +kernel) (by decide) ?_
  refine e_iadd (show pAt 0 693 = some (693, .iadd, 1, []) from by decide +kernel) ?_
  obtain ⟨c1, vc⟩ := vc
  refine e_sld (show pAt 0 694 = some (694, .iaload, 1, []) from by decide +kernel) c1 ?_
  refine Ends.call (show pAt 0 695 = some (695, .invokevirtual 87, 3, [80, 2, 0, 0, 3218, 3219, 3220]) from by decide +kernel) (isRet_none rfl) rfl (call_this (show HS h from hs) rfl rfl (by decide)) (Ends.mono vc ?_)
  rintro _ h2 ⟨r3, rfl, hs_h2, vc⟩
  refine e_pop (show pAt 0 698 = some (698, .pop, 1, []) from by decide +kernel) ?_
  refine e_aload_n (show pAt 0 699 = some (699, .aload_n 2, 1, []) from by decide +kernel) rfl (ra (by decide)) ?_
  refine e_aload_n (show pAt 0 700 = some (700, .aload_n 0, 1, []) from by decide +kernel) rfl (Nat.le_refl OLDB) ?_
  refine e_iload_n (show pAt 0 701 = some (701, .iload_n 3, 1, []) from by decide +kernel) rfl ?_
  refine e_iconst (c := 1) (show pAt 0 702 = some (702, .iconst 1, 1, []) from by decide +kernel) (by decide) ?_
  refine e_iadd (show pAt 0 703 = some (703, .iadd, 1, []) from by decide +kernel) ?_
  obtain ⟨c5, vc⟩ := vc
  refine e_sld (show pAt 0 704 = some (704, .iaload, 1, []) from by decide +kernel) c5 ?_
  refine Ends.call (show pAt 0 705 = some (705, .invokevirtual 90, 3, [173, 2, 0, 0, 6085, 6086, 6087]) from by decide +kernel) (isRet_none rfl) rfl (call_this (show HS h2 from hs_h2) rfl rfl (by decide)) (Ends.mono vc ?_)
  rintro _ h6 ⟨r7, rfl, hs_h6, vc⟩
  refine e_pop (show pAt 0 708 = some (708, .pop, 1, []) from by decide +kernel) ?_
  refine e_goto (t := 1297) (show pAt 0 709 = some (709, .goto 588, 3, []) from by decide +kernel) rfl ?_
  exact vc

theorem w_law18 {X : Scr} {dp : Nat} {h : Hp} {Q : Option Value → Hp → Prop} (i : Int32) (hs : HS h)
    (vc : (inB (i + 1) X.1 = true ∧ (inB (i + 2) X.1 = true ∧ Ends X dp 81 0 [.ref 0, .int (X.2 (i + 1).toNatClampNeg), .int (X.2 (i + 2).toNatClampNeg)] [] h (fun rv h3 => ∃ r4, rv = some (.int r4) ∧ HS h3 ∧ (inB (i + 1) X.1 = true ∧ (inB (i + 2) X.1 = true ∧ Ends X dp 174 0 [.ref 93, .int (X.2 (i + 1).toNatClampNeg), .int (X.2 (i + 2).toNatClampNeg), .retAddr 0, .retAddr 0] [] h3 (fun rv h8 => ∃ r9, rv = some (.int r9) ∧ HS h8 ∧ Ends X (dp + 1) 0 1297 [.ref OLDB, .ref 0, .ref 93, .int i] [] h8 Q))))))) :
    Ends X (dp + 1) 0 712 [.ref OLDB, .ref 0, .ref 93, .int i] [] h Q := by
  have ra : ∀ {a : Nat}, a < 1000 → a ≤ OLDB := fun h => by have := OLDB_eq; omega
  refine e_aload_n (show pAt 0 712 = some (712, .aload_n 1, 1, []) from by decide +kernel) rfl (ra (by decide)) ?_
  refine e_aload_n (show pAt 0 713 = some (713, .aload_n 0, 1, []) from by decide +kernel) rfl (Nat.le_refl OLDB) ?_
  refine e_iload_n (show pAt 0 714 = some (714, .iload_n 3, 1, []) from by decide +kernel) rfl ?_
  refine e_iconst (c := 1) (show pAt 0 715 = some (715, .iconst 1, 1, []) from by decide +kernel) (by decide) ?_
  refine e_iadd (show pAt 0 716 = some (716, .iadd, 1, []) from by decide +kernel) ?_
  obtain ⟨c1, vc⟩ := vc
  refine e_sld (show pAt 0 717 = some (717, .iaload, 1, []) from by decide +kernel) c1 ?_
  refine e_aload_n (show pAt 0 718 = some (718, .aload_n 0, 1, []) from by decide +kernel) rfl (Nat.le_refl OLDB) ?_
  refine e_iload_n (show pAt 0 719 = some (719, .iload_n 3, 1, []) from by decide +kernel) rfl ?_
  refine e_iconst (c := 2) (show pAt 0 720 = some (720, .iconst 2, 1, []) from by decide +kernel) (by decide) ?_
  refine e_iadd (show pAt 0 721 = some (721, .iadd, 1, []) from by decide +kernel) ?_
  obtain ⟨c2, vc⟩ := vc
  refine e_sld (show pAt 0 722 = some (722, .iaload, 1, []) from by decide +kernel) c2 ?_
  refine Ends.call (show pAt 0 723 = some (723, .invokevirtual 91, 3, [81, 3, 0, 0, 3230, 3231, 3232]) from by decide +kernel) (isRet_none rfl) rfl (call_this (show HS h from hs) rfl rfl (by decide)) (Ends.mono vc ?_)
  rintro _ h3 ⟨r4, rfl, hs_h3, vc⟩
  refine e_pop (show pAt 0 726 = some (726, .pop, 1, []) from by decide +kernel) ?_
  refine e_aload_n (show pAt 0 727 = some (727, .aload_n 2, 1, []) from by decide +kernel) rfl (ra (by decide)) ?_
  refine e_aload_n (show pAt 0 728 = some (728, .aload_n 0, 1, []) from by decide +kernel) rfl (Nat.le_refl OLDB) ?_
  refine e_iload_n (show pAt 0 729 = some (729, .iload_n 3, 1, []) from by decide +kernel) rfl ?_
  refine e_iconst (c := 1) (show pAt 0 730 = some (730, .iconst 1, 1, []) from by decide +kernel) (by decide) ?_
  refine e_iadd (show pAt 0 731 = some (731, .iadd, 1, []) from by decide +kernel) ?_
  obtain ⟨c6, vc⟩ := vc
  refine e_sld (show pAt 0 732 = some (732, .iaload, 1, []) from by decide +kernel) c6 ?_
  refine e_aload_n (show pAt 0 733 = some (733, .aload_n 0, 1, []) from by decide +kernel) rfl (Nat.le_refl OLDB) ?_
  refine e_iload_n (show pAt 0 734 = some (734, .iload_n 3, 1, []) from by decide +kernel) rfl ?_
  refine e_iconst (c := 2) (show pAt 0 735 = some (735, .iconst 2, 1, []) from by decide +kernel) (by decide) ?_
  refine e_iadd (show pAt 0 736 = some (736, .iadd, 1, []) from by decide +kernel) ?_
  obtain ⟨c7, vc⟩ := vc
  refine e_sld (show pAt 0 737 = some (737, .iaload, 1, []) from by decide +kernel) c7 ?_
  refine Ends.call (show pAt 0 738 = some (738, .invokevirtual 94, 3, [174, 3, 0, 0, 6097, 6098, 6099]) from by decide +kernel) (isRet_none rfl) rfl (call_this (show HS h3 from hs_h3) rfl rfl (by decide)) (Ends.mono vc ?_)
  rintro _ h8 ⟨r9, rfl, hs_h8, vc⟩
  refine e_pop (show pAt 0 741 = some (741, .pop, 1, []) from by decide +kernel) ?_
  refine e_goto (t := 1297) (show pAt 0 742 = some (742, .goto 555, 3, []) from by decide +kernel) rfl ?_
  exact vc

theorem w_law19 {X : Scr} {dp : Nat} {h : Hp} {Q : Option Value → Hp → Prop} (i : Int32) (hs : HS h)
    (vc : (inB (i + 1) X.1 = true ∧ Ends X dp 82 0 [.ref 0, .int (X.2 (i + 1).toNatClampNeg), .retAddr 0] [] h (fun rv h2 => ∃ r3, rv = some (.int r3) ∧ HS h2 ∧ (inB (i + 1) X.1 = true ∧ Ends X dp 175 0 [.ref 93, .int (X.2 (i + 1).toNatClampNeg), .retAddr 0] [] h2 (fun rv h6 => ∃ r7, rv = some (.int r7) ∧ HS h6 ∧ Ends X (dp + 1) 0 1297 [.ref OLDB, .ref 0, .ref 93, .int i] [] h6 Q))))) :
    Ends X (dp + 1) 0 745 [.ref OLDB, .ref 0, .ref 93, .int i] [] h Q := by
  have ra : ∀ {a : Nat}, a < 1000 → a ≤ OLDB := fun h => by have := OLDB_eq; omega
  refine e_aload_n (show pAt 0 745 = some (745, .aload_n 1, 1, []) from by decide +kernel) rfl (ra (by decide)) ?_
  refine e_aload_n (show pAt 0 746 = some (746, .aload_n 0, 1, []) from by decide +kernel) rfl (Nat.le_refl OLDB) ?_
  refine e_iload_n (show pAt 0 747 = some (747, .iload_n 3, 1, []) from by decide +kernel) rfl ?_
  refine e_iconst (c := 1) (show pAt 0 748 = some (748, .iconst 1, 1, []) from by decide +kernel) (by decide) ?_
  refine e_iadd (show pAt 0 749 = some (749, .iadd, 1, []) from by decide +kernel) ?_
  obtain ⟨c1, vc⟩ := vc
  refine e_sld (show pAt 0 750 = some (750, .iaload, 1, []) from by decide +kernel) c1 ?_
  refine Ends.call (show pAt 0 751 = some (751, .invokevirtual 95, 3, [82, 2, 0, 0, 3238, 3239, 4000]) from by decide +kernel) (isRet_none rfl) rfl (call_this (show HS h from hs) rfl rfl (by decide)) (Ends.mono vc ?_)
  rintro _ h2 ⟨r3, rfl, hs_h2, vc⟩
  refine e_pop (show pAt 0 754 = some (754, .pop, 1, []) from by decide +kernel) ?_
  refine e_aload_n (show pAt 0 755 = some (755, .aload_n 2, 1, []) from by decide +kernel) rfl (ra (by decide)) ?_
  refine e_aload_n (show pAt 0 756 = some (756, .aload_n 0, 1, []) from by decide +kernel) rfl (Nat.le_refl OLDB) ?_
  refine e_iload_n (show pAt 0 757 = some (757, .iload_n 3, 1, []) from by decide +kernel) rfl ?_
  refine e_iconst (c := 1) (show pAt 0 758 = some (758, .iconst 1, 1, []) from by decide +kernel) (by decide) ?_
  refine e_iadd (show pAt 0 759 = some (759, .iadd, 1, []) from by decide +kernel) ?_
  obtain ⟨c5, vc⟩ := vc
  refine e_sld (show pAt 0 760 = some (760, .iaload, 1, []) from by decide +kernel) c5 ?_
  refine Ends.call (show pAt 0 761 = some (761, .invokevirtual 98, 3, [175, 2, 0, 0, 6101, 6102, 6103]) from by decide +kernel) (isRet_none rfl) rfl (call_this (show HS h2 from hs_h2) rfl rfl (by decide)) (Ends.mono vc ?_)
  rintro _ h6 ⟨r7, rfl, hs_h6, vc⟩
  refine e_pop (show pAt 0 764 = some (764, .pop, 1, []) from by decide +kernel) ?_
  refine e_goto (t := 1297) (show pAt 0 765 = some (765, .goto 532, 3, []) from by decide +kernel) rfl ?_
  exact vc

theorem w_law20 {X : Scr} {dp : Nat} {h : Hp} {Q : Option Value → Hp → Prop} (i : Int32) (hs : HS h)
    (vc : (inB (i + 1) X.1 = true ∧ Ends X dp 83 0 [.ref 0, .int (X.2 (i + 1).toNatClampNeg), .retAddr 0, .retAddr 0] [] h (fun rv h2 => ∃ r3, rv = some (.int r3) ∧ HS h2 ∧ (inB (i + 1) X.1 = true ∧ Ends X dp 176 0 [.ref 93, .int (X.2 (i + 1).toNatClampNeg), .retAddr 0, .retAddr 0, .retAddr 0] [] h2 (fun rv h6 => ∃ r7, rv = some (.int r7) ∧ HS h6 ∧ Ends X (dp + 1) 0 1297 [.ref OLDB, .ref 0, .ref 93, .int i] [] h6 Q))))) :
    Ends X (dp + 1) 0 768 [.ref OLDB, .ref 0, .ref 93, .int i] [] h Q := by
  have ra : ∀ {a : Nat}, a < 1000 → a ≤ OLDB := fun h => by have := OLDB_eq; omega
  refine e_aload_n (show pAt 0 768 = some (768, .aload_n 1, 1, []) from by decide +kernel) rfl (ra (by decide)) ?_
  refine e_aload_n (show pAt 0 769 = some (769, .aload_n 0, 1, []) from by decide +kernel) rfl (Nat.le_refl OLDB) ?_
  refine e_iload_n (show pAt 0 770 = some (770, .iload_n 3, 1, []) from by decide +kernel) rfl ?_
  refine e_iconst (c := 1) (show pAt 0 771 = some (771, .iconst 1, 1, []) from by decide +kernel) (by decide) ?_
  refine e_iadd (show pAt 0 772 = some (772, .iadd, 1, []) from by decide +kernel) ?_
  obtain ⟨c1, vc⟩ := vc
  refine e_sld (show pAt 0 773 = some (773, .iaload, 1, []) from by decide +kernel) c1 ?_
  refine Ends.call (show pAt 0 774 = some (774, .invokevirtual 99, 3, [83, 2, 0, 0, 4006, 4007, 4008]) from by decide +kernel) (isRet_none rfl) rfl (call_this (show HS h from hs) rfl rfl (by decide)) (Ends.mono vc ?_)
  rintro _ h2 ⟨r3, rfl, hs_h2, vc⟩
  refine e_pop (show pAt 0 777 = some (777, .pop, 1, []) from by decide +kernel) ?_
  refine e_aload_n (show pAt 0 778 = some (778, .aload_n 2, 1, []) from by decide +kernel) rfl (ra (by decide)) ?_
  refine e_aload_n (show pAt 0 779 = some (779, .aload_n 0, 1, []) from by decide +kernel) rfl (Nat.le_refl OLDB) ?_
  refine e_iload_n (show pAt 0 780 = some (780, .iload_n 3, 1, []) from by decide +kernel) rfl ?_
  refine e_iconst (c := 1) (show pAt 0 781 = some (781, .iconst 1, 1, []) from by decide +kernel) (by decide) ?_
  refine e_iadd (show pAt 0 782 = some (782, .iadd, 1, []) from by decide +kernel) ?_
  obtain ⟨c5, vc⟩ := vc
  refine e_sld (show pAt 0 783 = some (783, .iaload, 1, []) from by decide +kernel) c5 ?_
  refine Ends.call (show pAt 0 784 = some (784, .invokevirtual 102, 3, [176, 2, 0, 0, 6105, 6106, 6107]) from by decide +kernel) (isRet_none rfl) rfl (call_this (show HS h2 from hs_h2) rfl rfl (by decide)) (Ends.mono vc ?_)
  rintro _ h6 ⟨r7, rfl, hs_h6, vc⟩
  refine e_pop (show pAt 0 787 = some (787, .pop, 1, []) from by decide +kernel) ?_
  refine e_goto (t := 1297) (show pAt 0 788 = some (788, .goto 509, 3, []) from by decide +kernel) rfl ?_
  exact vc

theorem w_law21 {X : Scr} {dp : Nat} {h : Hp} {Q : Option Value → Hp → Prop} (i : Int32) (hs : HS h)
    (vc : (inB (i + 1) X.1 = true ∧ (inB (i + 2) X.1 = true ∧ (inB (i + 3) X.1 = true ∧ Ends X dp 84 0 [.ref 0, .int (X.2 (i + 1).toNatClampNeg), .int (X.2 (i + 2).toNatClampNeg), .int (X.2 (i + 3).toNatClampNeg), .retAddr 0, .retAddr 0] [] h (fun rv h4 => ∃ r5, rv = some (.long r5) ∧ HS h4 ∧ (inB (i + 1) X.1 = true ∧ (inB (i + 2) X.1 = true ∧ (inB (i + 3) X.1 = true ∧ Ends X dp 179 0 [.ref 93, .int (X.2 (i + 1).toNatClampNeg), .int (X.2 (i + 2).toNatClampNeg), .int (X.2 (i + 3).toNatClampNeg), .retAddr 0, .retAddr 0, .retAddr 0] [] h4 (fun rv h10 => ∃ r11, rv = some (.long r11) ∧ HS h10 ∧ Ends X (dp + 1) 0 1297 [.ref OLDB, .ref 0, .ref 93, .int i] [] h10 Q))))))))) :
    Ends X (dp + 1) 0 791 [.ref OLDB, .ref 0, .ref 93, .int i] [] h Q := by
  have ra : ∀ {a : Nat}, a < 1000 → a ≤ OLDB := fun h => by have := OLDB_eq; omega
  refine e_aload_n (show pAt 0 791 = some (791, .aload_n 1, 1, []) from by decide +kernel) rfl (ra (by decide)) ?_
  refine e_aload_n (show pAt 0 792 = some (792, .aload_n 0, 1, []) from by decide +kernel) rfl (Nat.le_refl OLDB) ?_
  refine e_iload_n (show pAt 0 793 = some (793, .iload_n 3, 1, []) from by decide +kernel) rfl ?_
  refine e_iconst (c := 1) (show pAt 0 794 = some (794, .iconst 1, 1, []) from by decide +kernel) (by decide) ?_
  refine e_iadd (show pAt 0 795 = some (795, .iadd, 1, []) from by decide +kernel) ?_
  obtain ⟨c1, vc⟩ := vc
  refine e_sld (show pAt 0 796 = some (796, .iaload, 1, []) from by decide +kernel) c1 ?_
  refine e_aload_n (show pAt 0 797 = some (797, .aload_n 0, 1, []) from by decide +kernel) rfl (Nat.le_refl OLDB) ?_
  refine e_iload_n (show pAt 0 798 = some (798, .iload_n 3, 1, []) from by decide +kernel) rfl ?_
  refine e_iconst (c := 2) (show pAt 0 799 = some (799, .iconst 2, 1, []) from by decide +kernel) (by decide) ?_
  refine e_iadd (show pAt 0 800 = some (800, .iadd, 1, []) from by decide +kernel) ?_
  obtain ⟨c2, vc⟩ := vc
  refine e_sld (show pAt 0 801 = some (801, .iaload, 1, []) from by decide +kernel) c2 ?_
  refine e_aload_n (show pAt 0 802 = some (802, .aload_n 0, 1, []) from by decide +kernel) rfl (Nat.le_refl OLDB) ?_
  refine e_iload_n (show pAt 0 803 = some (803, .iload_n 3, 1, []) from by decide +kernel) rfl ?_
  refine e_iconst (c := 3) (show pAt 0 804 = some (804, .iconst 3, 1, []) from by decide +kernel) (by decide) ?_
  refine e_iadd (show pAt 0 805 = some (805, .iadd, 1, []) from by decide +kernel) ?_
  obtain ⟨c3, vc⟩ := vc
  refine e_sld (show pAt 0 806 = some (806, .iaload, 1, []) from by decide +kernel) c3 ?_
  refine Ends.call (show pAt 0 807 = some (807, .invokevirtual 103, 3, [84, 4, 0, 0, 4010, 4011, 4012]) from by decide +kernel) (isRet_none rfl) rfl (call_this (show HS h from hs) rfl rfl (by decide)) (Ends.mono vc ?_)
  rintro _ h4 ⟨r5, rfl, hs_h4, vc⟩
  refine e_pop2 (show pAt 0 810 = some (810, .pop2, 1, []) from by decide +kernel) ?_
  refine e_aload_n (show pAt 0 811 = some (811, .aload_n 2, 1, []) from by decide +kernel) rfl (ra (by decide)) ?_
  refine e_aload_n (show pAt 0 812 = some (812, .aload_n 0, 1, []) from by decide +kernel) rfl (Nat.le_refl OLDB) ?_
  refine e_iload_n (show pAt 0 813 = some (813, .iload_n 3, 1, []) from by decide +kernel) rfl ?_
  refine e_iconst (c := 1) (show pAt 0 814 = some (814, .iconst 1, 1, []) from by decide +kernel) (by decide) ?_
  refine e_iadd (show pAt 0 815 = some (815, .iadd, 1, []) from by decide +kernel) ?_
  obtain ⟨c7, vc⟩ := vc
  refine e_sld (show pAt 0 816 = some (816, .iaload, 1, []) from by decide +kernel) c7 ?_
  refine e_aload_n (show pAt 0 817 = some (817, .aload_n 0, 1, []) from by decide +kernel) rfl (Nat.le_refl OLDB) ?_
  refine e_iload_n (show pAt 0 818 = some (818, .iload_n 3, 1, []) from by decide +kernel) rfl ?_
  refine e_iconst (c := 2) (show pAt 0 819 = some (819, .iconst 2, 1, []) from by decide +kernel) (by decide) ?_
  refine e_iadd (show pAt 0 820 = some (820, .iadd, 1, []) from by decide +kernel) ?_
  obtain ⟨c8, vc⟩ := vc
  refine e_sld (show pAt 0 821 = some (821, .iaload, 1, []) from by decide +kernel) c8 ?_
  refine e_aload_n (show pAt 0 822 = some (822, .aload_n 0, 1, []) from by decide +kernel) rfl (Nat.le_refl OLDB) ?_
  refine e_iload_n (show pAt 0 823 = some (823, .iload_n 3, 1, []) from by decide +kernel) rfl ?_
  refine e_iconst (c := 3) (show pAt 0 824 = some (824, .iconst 3, 1, []) from by decide +kernel) (by decide) ?_
  refine e_iadd (show pAt 0 825 = some (825, .iadd, 1, []) from by decide +kernel) ?_
  obtain ⟨c9, vc⟩ := vc
  refine e_sld (show pAt 0 826 = some (826, .iaload, 1, []) from by decide +kernel) c9 ?_
  refine Ends.call (show pAt 0 827 = some (827, .invokevirtual 107, 3, [179, 4, 0, 0, 6109, 6110, 6111]) from by decide +kernel) (isRet_none rfl) rfl (call_this (show HS h4 from hs_h4) rfl rfl (by decide)) (Ends.mono vc ?_)
  rintro _ h10 ⟨r11, rfl, hs_h10, vc⟩
  refine e_pop2 (show pAt 0 830 = some (830, .pop2, 1, []) from by decide +kernel) ?_
  refine e_goto (t := 1297) (show pAt 0 831 = some (831, .goto 466, 3, []) from by decide +kernel) rfl ?_
  exact vc

theorem w_law22 {X : Scr} {dp : Nat} {h : Hp} {Q : Option Value → Hp → Prop} (i : Int32) (hs : HS h)
    (vc : (inB (i + 1) X.1 = true ∧ (inB (i + 2) X.1 = true ∧ Ends X dp 85 0 [.ref 0, .int (X.2 (i + 1).toNatClampNeg), .int (X.2 (i + 2).toNatClampNeg), .retAddr 0, .retAddr 0] [] h (fun rv h3 => ∃ r4, rv = some (.long r4) ∧ HS h3 ∧ (inB (i + 1) X.1 = true ∧ (inB (i + 2) X.1 = true ∧ Ends X dp 180 0 [.ref 93, .int (X.2 (i + 1).toNatClampNeg), .int (X.2 (i + 2).toNatClampNeg), .retAddr 0, .retAddr 0, .retAddr 0] [] h3 (fun rv h8 => ∃ r9, rv = some (.long r9) ∧ HS h8 ∧ ((condB .eq (lg_cmp r4 r9) 0 = true → Ends X (dp + 1) 0 1297 [.ref OLDB, .ref 0, .ref 93, .int i] [] h8 Q) ∧ (condB .eq (lg_cmp r4 r9) 0 = false → Q (some (.int 0)) h8))))))))) :
    Ends X (dp + 1) 0 834 [.ref OLDB, .ref 0, .ref 93, .int i] [] h Q := by
  have ra : ∀ {a : Nat}, a < 1000 → a ≤ OLDB := fun h => by have := OLDB_eq; omega
  refine e_aload_n (show pAt 0 834 = some (834, .aload_n 1, 1, []) from by decide +kernel) rfl (ra (by decide)) ?_
  refine e_aload_n (show pAt 0 835 = some (835, .aload_n 0, 1, []) from by decide +kernel) rfl (Nat.le_refl OLDB) ?_
  refine e_iload_n (show pAt 0 836 = some (836, .iload_n 3, 1, []) from by decide +kernel) rfl ?_
  refine e_iconst (c := 1) (show pAt 0 837 = some (837, .iconst 1, 1, []) from by decide +kernel) (by decide) ?_
  refine e_iadd (show pAt 0 838 = some (838, .iadd, 1, []) from by decide +kernel) ?_
  obtain ⟨c1, vc⟩ := vc
  refine e_sld (show pAt 0 839 = some (839, .iaload, 1, []) from by decide +kernel) c1 ?_
  refine e_aload_n (show pAt 0 840 = some (840, .aload_n 0, 1, []) from by decide +kernel) rfl (Nat.le_refl OLDB) ?_
  refine e_iload_n (show pAt 0 841 = some (841, .iload_n 3, 1, []) from by decide +kernel) rfl ?_
  refine e_iconst (c := 2) (show pAt 0 842 = some (842, .iconst 2, 1, []) from by decide +kernel) (by decide) ?_
  refine e_iadd (show pAt 0 843 = some (843, .iadd, 1, []) from by decide +kernel) ?_
  obtain ⟨c2, vc⟩ := vc
  refine e_sld (show pAt 0 844 = some (844, .iaload, 1, []) from by decide +kernel) c2 ?_
  refine Ends.call (show pAt 0 845 = some (845, .invokevirtual 108, 3, [85, 3, 0, 0, 4018, 4019, 4020]) from by decide +kernel) (isRet_none rfl) rfl (call_this (show HS h from hs) rfl rfl (by decide)) (Ends.mono vc ?_)
  rintro _ h3 ⟨r4, rfl, hs_h3, vc⟩
  refine e_aload_n (show pAt 0 848 = some (848, .aload_n 2, 1, []) from by decide +kernel) rfl (ra (by decide)) ?_
  refine e_aload_n (show pAt 0 849 = some (849, .aload_n 0, 1, []) from by decide +kernel) rfl (Nat.le_refl OLDB) ?_
  refine e_iload_n (show pAt 0 850 = some (850, .iload_n 3, 1, []) from by decide +kernel) rfl ?_
  refine e_iconst (c := 1) (show pAt 0 851 = some (851, .iconst 1, 1, []) from by decide +kernel) (by decide) ?_
  refine e_iadd (show pAt 0 852 = some (852, .iadd, 1, []) from by decide +kernel) ?_
  obtain ⟨c6, vc⟩ := vc
  refine e_sld (show pAt 0 853 = some (853, .iaload, 1, []) from by decide +kernel) c6 ?_
  refine e_aload_n (show pAt 0 854 = some (854, .aload_n 0, 1, []) from by decide +kernel) rfl (Nat.le_refl OLDB) ?_
  refine e_iload_n (show pAt 0 855 = some (855, .iload_n 3, 1, []) from by decide +kernel) rfl ?_
  refine e_iconst (c := 2) (show pAt 0 856 = some (856, .iconst 2, 1, []) from by decide +kernel) (by decide) ?_
  refine e_iadd (show pAt 0 857 = some (857, .iadd, 1, []) from by decide +kernel) ?_
  obtain ⟨c7, vc⟩ := vc
  refine e_sld (show pAt 0 858 = some (858, .iaload, 1, []) from by decide +kernel) c7 ?_
  refine Ends.call (show pAt 0 859 = some (859, .invokevirtual 112, 3, [180, 3, 0, 0, 6122, 6123, 6124]) from by decide +kernel) (isRet_none rfl) rfl (call_this (show HS h3 from hs_h3) rfl rfl (by decide)) (Ends.mono vc ?_)
  rintro _ h8 ⟨r9, rfl, hs_h8, vc⟩
  refine e_lcmp (show pAt 0 862 = some (862, .lcmp, 1, []) from by decide +kernel) ?_
  refine e_if (t := 1297) (show pAt 0 863 = some (863, .ifCond .eq 434, 3, []) from by decide +kernel) rfl (fun c11 => ?_) (fun c11 => ?_)
  · replace vc := vc.1 c11
    exact vc
  · replace vc := vc.2 c11
    refine e_iconst (c := 0) (show pAt 0 866 = some (866, .iconst 0, 1, []) from by decide +kernel) (by decide) ?_
    exact e_retZ (show pAt 0 867 = some (867, .ireturn, 1, []) from by decide +kernel) rfl (by decide) vc

theorem w_law23 {X : Scr} {dp : Nat} {h : Hp} {Q : Option Value → Hp → Prop} (i : Int32) (hs : HS h)
    (vc : (inB (i + 1) X.1 = true ∧ Ends X dp 86 0 [.ref 0, .int (X.2 (i + 1).toNatClampNeg)] [] h (fun rv h2 => ∃ r3, rv = some (.int r3) ∧ HS h2 ∧ (inB (i + 1) X.1 = true ∧ Ends X dp 181 0 [.ref 93, .int (X.2 (i + 1).toNatClampNeg)] [] h2 (fun rv h6 => ∃ r7, rv = some (.int r7) ∧ HS h6 ∧ Ends X (dp + 1) 0 1297 [.ref OLDB, .ref 0, .ref 93, .int i] [] h6 Q))))) :
    Ends X (dp + 1) 0 868 [.ref OLDB, .ref 0, .ref 93, .int i] [] h Q := by
  have ra : ∀ {a : Nat}, a < 1000 → a ≤ OLDB := fun h => by have := OLDB_eq; omega
  refine e_aload_n (show pAt 0 868 = some (868, .aload_n 1, 1, []) from by decide +kernel) rfl (ra (by decide)) ?_
  refine e_aload_n (show pAt 0 869 = some (869, .aload_n 0, 1, []) from by decide +kernel) rfl (Nat.le_refl OLDB) ?_
  refine e_iload_n (show pAt 0 870 = some (870, .iload_n 3, 1, []) from by decide +kernel) rfl ?_
  refine e_iconst (c := 1) (show pAt 0 871 = some (871, .iconst 1, 1, []) from by decide +kernel) (by decide) ?_
  refine e_iadd (show pAt 0 872 = some (872, .iadd, 1, []) from by decide +kernel) ?_
  obtain ⟨c1, vc⟩ := vc
  refine e_sld (show pAt 0 873 = some (873, .iaload, 1, []) from by decide +kernel) c1 ?_
  refine Ends.call (show pAt 0 874 = some (874, .invokevirtual 113, 3, [86, 2, 0, 0, 4022, 4023, 4024]) from by decide +kernel) (isRet_none rfl) rfl (call_this (show HS h from hs) rfl rfl (by decide)) (Ends.mono vc ?_)
  rintro _ h2 ⟨r3, rfl, hs_h2, vc⟩
  refine e_pop (show pAt 0 877 = some (877, .pop, 1, []) from by decide +kernel) ?_
  refine e_aload_n (show pAt 0 878 = some (878, .aload_n 2, 1, []) from by decide +kernel) rfl (ra (by decide)) ?_
  refine e_aload_n (show pAt 0 879 = some (879, .aload_n 0, 1, []) from by decide +kernel) rfl (Nat.le_refl OLDB) ?_
  refine e_iload_n (show pAt 0 880 = some (880, .iload_n 3, 1, []) from by decide +kernel) rfl ?_
  refine e_iconst (c := 1) (show pAt 0 881 = some (881, .iconst 1, 1, []) from by decide +kernel) (by decide) ?_
  refine e_iadd (show pAt 0 882 = some (882, .iadd, 1, []) from by decide +kernel) ?_
  obtain ⟨c5, vc⟩ := vc
  refine e_sld (show pAt 0 883 = some (883, .iaload, 1, []) from by decide +kernel) c5 ?_
  refine Ends.call (show pAt 0 884 = some (884, .invokevirtual 116, 3, [181, 2, 0, 0, 6126, 6127, 6128]) from by decide +kernel) (isRet_none rfl) rfl (call_this (show HS h2 from hs_h2) rfl rfl (by decide)) (Ends.mono vc ?_)
  rintro _ h6 ⟨r7, rfl, hs_h6, vc⟩
  refine e_pop (show pAt 0 887 = some (887, .pop, 1, []) from by decide +kernel) ?_
  refine e_goto (t := 1297) (show pAt 0 888 = some (888, .goto 409, 3, []) from by decide +kernel) rfl ?_
  exact vc

theorem w_law24 {X : Scr} {dp : Nat} {h : Hp} {Q : Option Value → Hp → Prop} (i : Int32) (hs : HS h)
    (vc : Ends X dp 87 0 [.ref 0, .retAddr 0] [] h (fun rv h1 => ∃ r2, rv = some (.int r2) ∧ HS h1 ∧ Ends X dp 182 0 [.ref 93, .retAddr 0, .retAddr 0] [] h1 (fun rv h4 => ∃ r5, rv = some (.int r5) ∧ HS h4 ∧ Ends X (dp + 1) 0 1297 [.ref OLDB, .ref 0, .ref 93, .int i] [] h4 Q))) :
    Ends X (dp + 1) 0 891 [.ref OLDB, .ref 0, .ref 93, .int i] [] h Q := by
  have ra : ∀ {a : Nat}, a < 1000 → a ≤ OLDB := fun h => by have := OLDB_eq; omega
  refine e_aload_n (show pAt 0 891 = some (891, .aload_n 1, 1, []) from by decide +kernel) rfl (ra (by decide)) ?_
  refine Ends.call (show pAt 0 892 = some (892, .invokevirtual 117, 3, [87, 1, 0, 0, 4026, 4027, 4028]) from by decide +kernel) (isRet_none rfl) rfl (call_this (show HS h from hs) rfl rfl (by decide)) (Ends.mono vc ?_)
  rintro _ h1 ⟨r2, rfl, hs_h1, vc⟩
  refine e_pop (show pAt 0 895 = some (895, .pop, 1, []) from by decide +kernel) ?_
  refine e_aload_n (show pAt 0 896 = some (896, .aload_n 2, 1, []) from by decide +kernel) rfl (ra (by decide)) ?_
  refine Ends.call (show pAt 0 897 = some (897, .invokevirtual 120, 3, [182, 1, 0, 0, 6130, 6131, 6132]) from by decide +kernel) (isRet_none rfl) rfl (call_this (show HS h1 from hs_h1) rfl rfl (by decide)) (Ends.mono vc ?_)
  rintro _ h4 ⟨r5, rfl, hs_h4, vc⟩
  refine e_pop (show pAt 0 900 = some (900, .pop, 1, []) from by decide +kernel) ?_
  refine e_goto (t := 1297) (show pAt 0 901 = some (901, .goto 396, 3, []) from by decide +kernel) rfl ?_
  exact vc

theorem w_law25 {X : Scr} {dp : Nat} {h : Hp} {Q : Option Value → Hp → Prop} (i : Int32) (hs : HS h)
    (vc : (inB (i + 1) X.1 = true ∧ (inB (i + 2) X.1 = true ∧ Ends X dp 88 0 [.ref 0, .int (X.2 (i + 1).toNatClampNeg), .int (X.2 (i + 2).toNatClampNeg), .retAddr 0, .retAddr 0, .retAddr 0, .retAddr 0] [] h (fun rv h3 => ∃ r4, rv = some (.int r4) ∧ HS h3 ∧ (inB (i + 1) X.1 = true ∧ (inB (i + 2) X.1 = true ∧ Ends X dp 183 0 [.ref 93, .int (X.2 (i + 1).toNatClampNeg), .int (X.2 (i + 2).toNatClampNeg), .retAddr 0] [] h3 (fun rv h8 => ∃ r9, rv = some (.int r9) ∧ HS h8 ∧ Ends X (dp + 1) 0 1297 [.ref OLDB, .ref 0, .ref 93, .int i] [] h8 Q))))))) :
    Ends X (dp + 1) 0 904 [.ref OLDB, .ref 0, .ref 93, .int i] [] h Q := by
  have ra : ∀ {a : Nat}, a < 1000 → a ≤ OLDB := fun h => by have := OLDB_eq; omega
  refine e_aload_n (show pAt 0 904 = some (904, .aload_n 1, 1, []) from by decide +kernel) rfl (ra (by decide)) ?_
  refine e_aload_n (show pAt 0 905 = some (905, .aload_n 0, 1, []) from by decide +kernel) rfl (Nat.le_refl OLDB) ?_
  refine e_iload_n (show pAt 0 906 = some (906, .iload_n 3, 1, []) from by decide +kernel) rfl ?_
  refine e_iconst (c := 1) (show pAt 0 907 = some (907, .iconst 1, 1, []) from by decide +kernel) (by decide) ?_
  refine e_iadd (show pAt 0 908 = some (908, .iadd, 1, []) from by decide +kernel) ?_
  obtain ⟨c1, vc⟩ := vc
  refine e_sld (show pAt 0 909 = some (909, .iaload, 1, []) from by decide +kernel) c1 ?_
  refine e_aload_n (show pAt 0 910 = some (910, .aload_n 0, 1, []) from by decide +kernel) rfl (Nat.le_refl OLDB) ?_
  refine e_iload_n (show pAt 0 911 = some (911, .iload_n 3, 1, []) from by decide +kernel) rfl ?_
  refine e_iconst (c := 2) (show pAt 0 912 = some (912, .iconst 2, 1, []) from by decide +kernel) (by decide) ?_
  refine e_iadd (show pAt 0 913 = some (913, .iadd, 1, []) from by decide +kernel) ?_
  obtain ⟨c2, vc⟩ := vc
  refine e_sld (show pAt 0 914 = some (914, .iaload, 1, []) from by decide +kernel) c2 ?_
  refine Ends.call (show pAt 0 915 = some (915, .invokevirtual 121, 3, [88, 3, 0, 0, 4030, 4031, 4032]) from by decide +kernel) (isRet_none rfl) rfl (call_this (show HS h from hs) rfl rfl (by decide)) (Ends.mono vc ?_)
  rintro _ h3 ⟨r4, rfl, hs_h3, vc⟩
  refine e_pop (show pAt 0 918 = some (918, .pop, 1, []) from by decide +kernel) ?_
  refine e_aload_n (show pAt 0 919 = some (919, .aload_n 2, 1, []) from by decide +kernel) rfl (ra (by decide)) ?_
  refine e_aload_n (show pAt 0 920 = some (920, .aload_n 0, 1, []) from by decide +kernel) rfl (Nat.le_refl OLDB) ?_
  refine e_iload_n (show pAt 0 921 = some (921, .iload_n 3, 1, []) from by decide +kernel) rfl ?_
  refine e_iconst (c := 1) (show pAt 0 922 = some (922, .iconst 1, 1, []) from by decide +kernel) (by decide) ?_
  refine e_iadd (show pAt 0 923 = some (923, .iadd, 1, []) from by decide +kernel) ?_
  obtain ⟨c6, vc⟩ := vc
  refine e_sld (show pAt 0 924 = some (924, .iaload, 1, []) from by decide +kernel) c6 ?_
  refine e_aload_n (show pAt 0 925 = some (925, .aload_n 0, 1, []) from by decide +kernel) rfl (Nat.le_refl OLDB) ?_
  refine e_iload_n (show pAt 0 926 = some (926, .iload_n 3, 1, []) from by decide +kernel) rfl ?_
  refine e_iconst (c := 2) (show pAt 0 927 = some (927, .iconst 2, 1, []) from by decide +kernel) (by decide) ?_
  refine e_iadd (show pAt 0 928 = some (928, .iadd, 1, []) from by decide +kernel) ?_
  obtain ⟨c7, vc⟩ := vc
  refine e_sld (show pAt 0 929 = some (929, .iaload, 1, []) from by decide +kernel) c7 ?_
  refine Ends.call (show pAt 0 930 = some (930, .invokevirtual 124, 3, [183, 3, 0, 0, 6134, 6135, 6136]) from by decide +kernel) (isRet_none rfl) rfl (call_this (show HS h3 from hs_h3) rfl rfl (by decide)) (Ends.mono vc ?_)
  rintro _ h8 ⟨r9, rfl, hs_h8, vc⟩
  refine e_pop (show pAt 0 933 = some (933, .pop, 1, []) from by decide +kernel) ?_
  refine e_goto (t := 1297) (show pAt 0 934 = some (934, .goto 363, 3, []) from by decide +kernel) rfl ?_
  exact vc

theorem w_law26 {X : Scr} {dp : Nat} {h : Hp} {Q : Option Value → Hp → Prop} (i : Int32) (hs : HS h)
    (vc : Ends X dp 89 0 [.ref 0] [] h (fun rv h1 => ∃ r2, rv = some (.int r2) ∧ HS h1 ∧ Ends X dp 184 0 [.ref 93, .retAddr 0] [] h1 (fun rv h4 => ∃ r5, rv = some (.int r5) ∧ HS h4 ∧ Ends X (dp + 1) 0 1297 [.ref OLDB, .ref 0, .ref 93, .int i] [] h4 Q))) :
    Ends X (dp + 1) 0 937 [.ref OLDB, .ref 0, .ref 93, .int i] [] h Q := by
  have ra : ∀ {a : Nat}, a < 1000 → a ≤ OLDB := fun h => by have := OLDB_eq; omega
  refine e_aload_n (show pAt 0 937 = some (937, .aload_n 1, 1, []) from by decide +kernel) rfl (ra (by decide)) ?_
  refine Ends.call (show pAt 0 938 = some (938, .invokevirtual 125, 3, [89, 1, 0, 0, 4044, 4045, 4046]) from by decide +kernel) (isRet_none rfl) rfl (call_this (show HS h from hs) rfl rfl (by decide)) (Ends.mono vc ?_)
  rintro _ h1 ⟨r2, rfl, hs_h1, vc⟩
  refine e_pop (show pAt 0 941 = some (941, .pop, 1, []) from by decide +kernel) ?_
  refine e_aload_n (show pAt 0 942 = some (942, .aload_n 2, 1, []) from by decide +kernel) rfl (ra (by decide)) ?_
  refine Ends.call (show pAt 0 943 = some (943, .invokevirtual 128, 3, [184, 1, 0, 0, 6142, 6143, 6144]) from by decide +kernel) (isRet_none rfl) rfl (call_this (show HS h1 from hs_h1) rfl rfl (by decide)) (Ends.mono vc ?_)
  rintro _ h4 ⟨r5, rfl, hs_h4, vc⟩
  refine e_pop (show pAt 0 946 = some (946, .pop, 1, []) from by decide +kernel) ?_
  refine e_goto (t := 1297) (show pAt 0 947 = some (947, .goto 350, 3, []) from by decide +kernel) rfl ?_
  exact vc

theorem w_law27 {X : Scr} {dp : Nat} {h : Hp} {Q : Option Value → Hp → Prop} (i : Int32) (hs : HS h)
    (vc : Ends X dp 90 0 [.ref 0] [] h (fun rv h1 => ∃ r2, rv = some (.int r2) ∧ HS h1 ∧ Ends X dp 185 0 [.ref 93, .retAddr 0] [] h1 (fun rv h4 => ∃ r5, rv = some (.int r5) ∧ HS h4 ∧ Ends X (dp + 1) 0 1297 [.ref OLDB, .ref 0, .ref 93, .int i] [] h4 Q))) :
    Ends X (dp + 1) 0 950 [.ref OLDB, .ref 0, .ref 93, .int i] [] h Q := by
  have ra : ∀ {a : Nat}, a < 1000 → a ≤ OLDB := fun h => by have := OLDB_eq; omega
  refine e_aload_n (show pAt 0 950 = some (950, .aload_n 1, 1, []) from by decide +kernel) rfl (ra (by decide)) ?_
  refine Ends.call (show pAt 0 951 = some (951, .invokevirtual 129, 3, [90, 1, 0, 0, 4049, 4050, 4051]) from by decide +kernel) (isRet_none rfl) rfl (call_this (show HS h from hs) rfl rfl (by decide)) (Ends.mono vc ?_)
  rintro _ h1 ⟨r2, rfl, hs_h1, vc⟩
  refine e_pop (show pAt 0 954 = some (954, .pop, 1, []) from by decide +kernel) ?_
  refine e_aload_n (show pAt 0 955 = some (955, .aload_n 2, 1, []) from by decide +kernel) rfl (ra (by decide)) ?_
  refine Ends.call (show pAt 0 956 = some (956, .invokevirtual 132, 3, [185, 1, 0, 0, 6146, 6147, 6148]) from by decide +kernel) (isRet_none rfl) rfl (call_this (show HS h1 from hs_h1) rfl rfl (by decide)) (Ends.mono vc ?_)
  rintro _ h4 ⟨r5, rfl, hs_h4, vc⟩
  refine e_pop (show pAt 0 959 = some (959, .pop, 1, []) from by decide +kernel) ?_
  refine e_goto (t := 1297) (show pAt 0 960 = some (960, .goto 337, 3, []) from by decide +kernel) rfl ?_
  exact vc

theorem w_law28 {X : Scr} {dp : Nat} {h : Hp} {Q : Option Value → Hp → Prop} (i : Int32) (hs : HS h)
    (vc : (inB (i + 1) X.1 = true ∧ (inB (i + 2) X.1 = true ∧ (inB (i + 3) X.1 = true ∧ Ends X dp 91 0 [.ref 0, .int (X.2 (i + 1).toNatClampNeg), .int (X.2 (i + 2).toNatClampNeg), .int (X.2 (i + 3).toNatClampNeg)] [] h (fun rv h4 => ∃ r5, rv = some (.int r5) ∧ HS h4 ∧ (inB (i + 1) X.1 = true ∧ (inB (i + 2) X.1 = true ∧ (inB (i + 3) X.1 = true ∧ Ends X dp 194 0 [.ref 93, .int (X.2 (i + 1).toNatClampNeg), .int (X.2 (i + 2).toNatClampNeg), .int (X.2 (i + 3).toNatClampNeg)] [] h4 (fun rv h10 => ∃ r11, rv = some (.int r11) ∧ HS h10 ∧ Ends X (dp + 1) 0 1297 [.ref OLDB, .ref 0, .ref 93, .int i] [] h10 Q))))))))) :
    Ends X (dp + 1) 0 963 [.ref OLDB, .ref 0, .ref 93, .int i] [] h Q := by
  have ra : ∀ {a : Nat}, a < 1000 → a ≤ OLDB := fun h => by have := OLDB_eq; omega
  refine e_aload_n (show pAt 0 963 = some (963, .aload_n 1, 1, []) from by decide +kernel) rfl (ra (by decide)) ?_
  refine e_aload_n (show pAt 0 964 = some (964, .aload_n 0, 1, []) from by decide +kernel) rfl (Nat.le_refl OLDB) ?_
  refine e_iload_n (show pAt 0 965 = some (965, .iload_n 3, 1, []) from by decide +kernel) rfl ?_
  refine e_iconst (c := 1) (show pAt 0 966 = some (966, .iconst 1, 1, []) from by decide +kernel) (by decide) ?_
  refine e_iadd (show pAt 0 967 = some (967, .iadd, 1, []) from by decide +kernel) ?_
  obtain ⟨c1, vc⟩ := vc
  refine e_sld (show pAt 0 968 = some (968, .iaload, 1, []) from by decide +kernel) c1 ?_
  refine e_aload_n (show pAt 0 969 = some (969, .aload_n 0, 1, []) from by decide +kernel) rfl (Nat.le_refl OLDB) ?_
  refine e_iload_n (show pAt 0 970 = some (970, .iload_n 3, 1, []) from by decide +kernel) rfl ?_
  refine e_iconst (c := 2) (show pAt 0 971 = some (971, .iconst 2, 1, []) from by decide +kernel) (by decide) ?_
  refine e_iadd (show pAt 0 972 = some (972, .iadd, 1, []) from by decide +kernel) ?_
  obtain ⟨c2, vc⟩ := vc
  refine e_sld (show pAt 0 973 = some (973, .iaload, 1, []) from by decide +kernel) c2 ?_
  refine e_aload_n (show pAt 0 974 = some (974, .aload_n 0, 1, []) from by decide +kernel) rfl (Nat.le_refl OLDB) ?_
  refine e_iload_n (show pAt 0 975 = some (975, .iload_n 3, 1, []) from by decide +kernel) rfl ?_
  refine e_iconst (c := 3) (show pAt 0 976 = some (976, .iconst 3, 1, []) from by decide +kernel) (by decide) ?_
  refine e_iadd (show pAt 0 977 = some (977, .iadd, 1, []) from by decide +kernel) ?_
  obtain ⟨c3, vc⟩ := vc
  refine e_sld (show pAt 0 978 = some (978, .iaload, 1, []) from by decide +kernel) c3 ?_
  refine Ends.call (show pAt 0 979 = some (979, .invokevirtual 133, 3, [91, 4, 0, 0, 4053, 4054, 4055]) from by decide +kernel) (isRet_none rfl) rfl (call_this (show HS h from hs) rfl rfl (by decide)) (Ends.mono vc ?_)
  rintro _ h4 ⟨r5, rfl, hs_h4, vc⟩
  refine e_pop (show pAt 0 982 = some (982, .pop, 1, []) from by decide +kernel) ?_
  refine e_aload_n (show pAt 0 983 = some (983, .aload_n 2, 1, []) from by decide +kernel) rfl (ra (by decide)) ?_
  refine e_aload_n (show pAt 0 984 = some (984, .aload_n 0, 1, []) from by decide +kernel) rfl (Nat.le_refl OLDB) ?_
  refine e_iload_n (show pAt 0 985 = some (985, .iload_n 3, 1, []) from by decide +kernel) rfl ?_
  refine e_iconst (c := 1) (show pAt 0 986 = some (986, .iconst 1, 1, []) from by decide +kernel) (by decide) ?_
  refine e_iadd (show pAt 0 987 = some (987, .iadd, 1, []) from by decide +kernel) ?_
  obtain ⟨c7, vc⟩ := vc
  refine e_sld (show pAt 0 988 = some (988, .iaload, 1, []) from by decide +kernel) c7 ?_
  refine e_aload_n (show pAt 0 989 = some (989, .aload_n 0, 1, []) from by decide +kernel) rfl (Nat.le_refl OLDB) ?_
  refine e_iload_n (show pAt 0 990 = some (990, .iload_n 3, 1, []) from by decide +kernel) rfl ?_
  refine e_iconst (c := 2) (show pAt 0 991 = some (991, .iconst 2, 1, []) from by decide +kernel) (by decide) ?_
  refine e_iadd (show pAt 0 992 = some (992, .iadd, 1, []) from by decide +kernel) ?_
  obtain ⟨c8, vc⟩ := vc
  refine e_sld (show pAt 0 993 = some (993, .iaload, 1, []) from by decide +kernel) c8 ?_
  refine e_aload_n (show pAt 0 994 = some (994, .aload_n 0, 1, []) from by decide +kernel) rfl (Nat.le_refl OLDB) ?_
  refine e_iload_n (show pAt 0 995 = some (995, .iload_n 3, 1, []) from by decide +kernel) rfl ?_
  refine e_iconst (c := 3) (show pAt 0 996 = some (996, .iconst 3, 1, []) from by decide +kernel) (by decide) ?_
  refine e_iadd (show pAt 0 997 = some (997, .iadd, 1, []) from by decide +kernel) ?_
  obtain ⟨c9, vc⟩ := vc
  refine e_sld (show pAt 0 998 = some (998, .iaload, 1, []) from by decide +kernel) c9 ?_
  refine Ends.call (show pAt 0 999 = some (999, .invokevirtual 136, 3, [194, 4, 0, 0, 6150, 6151, 6152]) from by decide +kernel) (isRet_none rfl) rfl (call_this (show HS h4 from hs_h4) rfl rfl (by decide)) (Ends.mono vc ?_)
  rintro _ h10 ⟨r11, rfl, hs_h10, vc⟩
  refine e_pop (show pAt 0 1002 = some (1002, .pop, 1, []) from by decide +kernel) ?_
  refine e_goto (t := 1297) (show pAt 0 1003 = some (1003, .goto 294, 3, []) from by decide +kernel) rfl ?_
  exact vc

theorem w_law29 {X : Scr} {dp : Nat} {h : Hp} {Q : Option Value → Hp → Prop} (i : Int32) (hs : HS h)
    (vc : (inB (i + 1) X.1 = true ∧ Ends X dp 92 0 [.ref 0, .int (X.2 (i + 1).toNatClampNeg)] [] h (fun rv h2 => ∃ r3, rv = some (.int r3) ∧ HS h2 ∧ (inB (i + 1) X.1 = true ∧ Ends X dp 195 0 [.ref 93, .int (X.2 (i + 1).toNatClampNeg)] [] h2 (fun rv h6 => ∃ r7, rv = some (.int r7) ∧ HS h6 ∧ Ends X (dp + 1) 0 1297 [.ref OLDB, .ref 0, .ref 93, .int i] [] h6 Q))))) :
    Ends X (dp + 1) 0 1006 [.ref OLDB, .ref 0, .ref 93, .int i] [] h Q := by
  have ra : ∀ {a : Nat}, a < 1000 → a ≤ OLDB := fun h => by have := OLDB_eq; omega
  refine e_aload_n (show pAt 0 1006 = some (1006, .aload_n 1, 1, []) from by decide +kernel) rfl (ra (by decide)) ?_
  refine e_aload_n (show pAt 0 1007 = some (1007, .aload_n 0, 1, []) from by decide +kernel) rfl (Nat.le_refl OLDB) ?_
  refine e_iload_n (show pAt 0 1008 = some (1008, .iload_n 3, 1, []) from by decide +kernel) rfl ?_
  refine e_iconst (c := 1) (show pAt 0 1009 = some (1009, .iconst 1, 1, []) from by decide +kernel) (by decide) ?_
  refine e_iadd (show pAt 0 1010 = some (1010, .iadd, 1, []) from by decide +kernel) ?_
  obtain ⟨c1, vc⟩ := vc
  refine e_sld (show pAt 0 1011 = some (1011, .iaload, 1, []) from by decide +kernel) c1 ?_
  refine Ends.call (show pAt 0 1012 = some (1012, .invokevirtual 137, 3, [92, 2, 0, 0, 4073, 4074, 4075]) from by decide +kernel) (isRet_none rfl) rfl (call_this (show HS h from hs) rfl rfl (by decide)) (Ends.mono vc ?_)
  rintro _ h2 ⟨r3, rfl, hs_h2, vc⟩
  refine e_pop (show pAt 0 1015 = some (1015, .pop, 1, []) from by decide +kernel) ?_
  refine e_aload_n (show pAt 0 1016 = some (1016, .aload_n 2, 1, []) from by decide +kernel) rfl (ra (by decide)) ?_
  refine e_aload_n (show pAt 0 1017 = some (1017, .aload_n 0, 1, []) from by decide +kernel) rfl (Nat.le_refl OLDB) ?_
  refine e_iload_n (show pAt 0 1018 = some (1018, .iload_n 3, 1, []) from by decide +kernel) rfl ?_
  refine e_iconst (c := 1) (show pAt 0 1019 = some (1019, .iconst 1, 1, []) from by decide +kernel) (by decide) ?_
  refine e_iadd (show pAt 0 1020 = some (1020, .iadd, 1, []) from by decide +kernel) ?_
  obtain ⟨c5, vc⟩ := vc
  refine e_sld (show pAt 0 1021 = some (1021, .iaload, 1, []) from by decide +kernel) c5 ?_
  refine Ends.call (show pAt 0 1022 = some (1022, .invokevirtual 140, 3, [195, 2, 0, 0, 6186, 6187, 6188]) from by decide +kernel) (isRet_none rfl) rfl (call_this (show HS h2 from hs_h2) rfl rfl (by decide)) (Ends.mono vc ?_)
  rintro _ h6 ⟨r7, rfl, hs_h6, vc⟩
  refine e_pop (show pAt 0 1025 = some (1025, .pop, 1, []) from by decide +kernel) ?_
  refine e_goto (t := 1297) (show pAt 0 1026 = some (1026, .goto 271, 3, []) from by decide +kernel) rfl ?_
  exact vc

theorem w_law30 {X : Scr} {dp : Nat} {h : Hp} {Q : Option Value → Hp → Prop} (i : Int32) (hs : HS h)
    (vc : (inB (i + 1) X.1 = true ∧ (inB (i + 2) X.1 = true ∧ Ends X dp 93 0 [.ref 0, .int (X.2 (i + 1).toNatClampNeg), .int (X.2 (i + 2).toNatClampNeg), .retAddr 0, .retAddr 0, .retAddr 0] [] h (fun rv h3 => ∃ r4, rv = some (.int r4) ∧ HS h3 ∧ (inB (i + 1) X.1 = true ∧ (inB (i + 2) X.1 = true ∧ Ends X dp 196 0 [.ref 93, .int (X.2 (i + 1).toNatClampNeg), .int (X.2 (i + 2).toNatClampNeg), .retAddr 0] [] h3 (fun rv h8 => ∃ r9, rv = some (.int r9) ∧ HS h8 ∧ Ends X (dp + 1) 0 1297 [.ref OLDB, .ref 0, .ref 93, .int i] [] h8 Q))))))) :
    Ends X (dp + 1) 0 1029 [.ref OLDB, .ref 0, .ref 93, .int i] [] h Q := by
  have ra : ∀ {a : Nat}, a < 1000 → a ≤ OLDB := fun h => by have := OLDB_eq; omega
  refine e_aload_n (show pAt 0 1029 = some (1029, .aload_n 1, 1, []) from by decide +kernel) rfl (ra (by decide)) ?_
  refine e_aload_n (show pAt 0 1030 = some (1030, .aload_n 0, 1, []) from by decide +kernel) rfl (Nat.le_refl OLDB) ?_
  refine e_iload_n (show pAt 0 1031 = some (1031, .iload_n 3, 1, []) from by decide +kernel) rfl ?_
  refine e_iconst (c := 1) (show pAt 0 1032 = some (1032, .iconst 1, 1, []) from by decide +kernel) (by decide) ?_
  refine e_iadd (show pAt 0 1033 = some (1033, .iadd, 1, []) from by decide +kernel) ?_
  obtain ⟨c1, vc⟩ := vc
  refine e_sld (show pAt 0 1034 = some (1034, .iaload, 1, []) from by decide +kernel) c1 ?_
  refine e_aload_n (show pAt 0 1035 = some (1035, .aload_n 0, 1, []) from by decide +kernel) rfl (Nat.le_refl OLDB) ?_
  refine e_iload_n (show pAt 0 1036 = some (1036, .iload_n 3, 1, []) from by decide +kernel) rfl ?_
  refine e_iconst (c := 2) (show pAt 0 1037 = some (1037, .iconst 2, 1, []) from by decide +kernel) (by decide) ?_
  refine e_iadd (show pAt 0 1038 = some (1038, .iadd, 1, []) from by decide +kernel) ?_
  obtain ⟨c2, vc⟩ := vc
  refine e_sld (show pAt 0 1039 = some (1039, .iaload, 1, []) from by decide +kernel) c2 ?_
  refine Ends.call (show pAt 0 1040 = some (1040, .invokevirtual 141, 3, [93, 3, 0, 0, 4077, 4078, 4079]) from by decide +kernel) (isRet_none rfl) rfl (call_this (show HS h from hs) rfl rfl (by decide)) (Ends.mono vc ?_)
  rintro _ h3 ⟨r4, rfl, hs_h3, vc⟩
  refine e_pop (show pAt 0 1043 = some (1043, .pop, 1, []) from by decide +kernel) ?_
  refine e_aload_n (show pAt 0 1044 = some (1044, .aload_n 2, 1, []) from by decide +kernel) rfl (ra (by decide)) ?_
  refine e_aload_n (show pAt 0 1045 = some (1045, .aload_n 0, 1, []) from by decide +kernel) rfl (Nat.le_refl OLDB) ?_
  refine e_iload_n (show pAt 0 1046 = some (1046, .iload_n 3, 1, []) from by decide +kernel) rfl ?_
  refine e_iconst (c := 1) (show pAt 0 1047 = some (1047, .iconst 1, 1, []) from by decide +kernel) (by decide) ?_
  refine e_iadd (show pAt 0 1048 = some (1048, .iadd, 1, []) from by decide +kernel) ?_
  obtain ⟨c6, vc⟩ := vc
  refine e_sld (show pAt 0 1049 = some (1049, .iaload, 1, []) from by decide +kernel) c6 ?_
  refine e_aload_n (show pAt 0 1050 = some (1050, .aload_n 0, 1, []) from by decide +kernel) rfl (Nat.le_refl OLDB) ?_
  refine e_iload_n (show pAt 0 1051 = some (1051, .iload_n 3, 1, []) from by decide +kernel) rfl ?_
  refine e_iconst (c := 2) (show pAt 0 1052 = some (1052, .iconst 2, 1, []) from by decide +kernel) (by decide) ?_
  refine e_iadd (show pAt 0 1053 = some (1053, .iadd, 1, []) from by decide +kernel) ?_
  obtain ⟨c7, vc⟩ := vc
  refine e_sld (show pAt 0 1054 = some (1054, .iaload, 1, []) from by decide +kernel) c7 ?_
  refine Ends.call (show pAt 0 1055 = some (1055, .invokevirtual 144, 3, [196, 3, 0, 0, 6190, 6191, 6192]) from by decide +kernel) (isRet_none rfl) rfl (call_this (show HS h3 from hs_h3) rfl rfl (by decide)) (Ends.mono vc ?_)
  rintro _ h8 ⟨r9, rfl, hs_h8, vc⟩
  refine e_pop (show pAt 0 1058 = some (1058, .pop, 1, []) from by decide +kernel) ?_
  refine e_goto (t := 1297) (show pAt 0 1059 = some (1059, .goto 238, 3, []) from by decide +kernel) rfl ?_
  exact vc

theorem w_law31 {X : Scr} {dp : Nat} {h : Hp} {Q : Option Value → Hp → Prop} (i : Int32) (hs : HS h)
    (vc : (inB (i + 1) X.1 = true ∧ Ends X dp 94 0 [.ref 0, .int (X.2 (i + 1).toNatClampNeg)] [] h (fun rv h2 => ∃ r3, rv = some (.int r3) ∧ HS h2 ∧ (inB (i + 1) X.1 = true ∧ Ends X dp 197 0 [.ref 93, .int (X.2 (i + 1).toNatClampNeg)] [] h2 (fun rv h6 => ∃ r7, rv = some (.int r7) ∧ HS h6 ∧ Ends X (dp + 1) 0 1297 [.ref OLDB, .ref 0, .ref 93, .int i] [] h6 Q))))) :
    Ends X (dp + 1) 0 1062 [.ref OLDB, .ref 0, .ref 93, .int i] [] h Q := by
  have ra : ∀ {a : Nat}, a < 1000 → a ≤ OLDB := fun h => by have := OLDB_eq; omega
  refine e_aload_n (show pAt 0 1062 = some (1062, .aload_n 1, 1, []) from by decide +kernel) rfl (ra (by decide)) ?_
  refine e_aload_n (show pAt 0 1063 = some (1063, .aload_n 0, 1, []) from by decide +kernel) rfl (Nat.le_refl OLDB) ?_
  refine e_iload_n (show pAt 0 1064 = some (1064, .iload_n 3, 1, []) from by decide +kernel) rfl ?_
  refine e_iconst (c := 1) (show pAt 0 1065 = some (1065, .iconst 1, 1, []) from by decide +kernel) (by decide) ?_
  refine e_iadd (show pAt 0 1066 = some (1066, .iadd, 1, []) from by decide +kernel) ?_
  obtain ⟨c1, vc⟩ := vc
  refine e_sld (show pAt 0 1067 = some (1067, .iaload, 1, []) from by decide +kernel) c1 ?_
  refine Ends.call (show pAt 0 1068 = some (1068, .invokevirtual 145, 3, [94, 2, 0, 0, 4082, 4083, 4084]) from by decide +kernel) (isRet_none rfl) rfl (call_this (show HS h from hs) rfl rfl (by decide)) (Ends.mono vc ?_)
  rintro _ h2 ⟨r3, rfl, hs_h2, vc⟩
  refine e_pop (show pAt 0 1071 = some (1071, .pop, 1, []) from by decide +kernel) ?_
  refine e_aload_n (show pAt 0 1072 = some (1072, .aload_n 2, 1, []) from by decide +kernel) rfl (ra (by decide)) ?_
  refine e_aload_n (show pAt 0 1073 = some (1073, .aload_n 0, 1, []) from by decide +kernel) rfl (Nat.le_refl OLDB) ?_
  refine e_iload_n (show pAt 0 1074 = some (1074, .iload_n 3, 1, []) from by decide +kernel) rfl ?_
  refine e_iconst (c := 1) (show pAt 0 1075 = some (1075, .iconst 1, 1, []) from by decide +kernel) (by decide) ?_
  refine e_iadd (show pAt 0 1076 = some (1076, .iadd, 1, []) from by decide +kernel) ?_
  obtain ⟨c5, vc⟩ := vc
  refine e_sld (show pAt 0 1077 = some (1077, .iaload, 1, []) from by decide +kernel) c5 ?_
  refine Ends.call (show pAt 0 1078 = some (1078, .invokevirtual 148, 3, [197, 2, 0, 0, 6194, 6195, 6196]) from by decide +kernel) (isRet_none rfl) rfl (call_this (show HS h2 from hs_h2) rfl rfl (by decide)) (Ends.mono vc ?_)
  rintro _ h6 ⟨r7, rfl, hs_h6, vc⟩
  refine e_pop (show pAt 0 1081 = some (1081, .pop, 1, []) from by decide +kernel) ?_
  refine e_goto (t := 1297) (show pAt 0 1082 = some (1082, .goto 215, 3, []) from by decide +kernel) rfl ?_
  exact vc

theorem w_law32 {X : Scr} {dp : Nat} {h : Hp} {Q : Option Value → Hp → Prop} (i : Int32) (hs : HS h)
    (vc : (inB (i + 1) X.1 = true ∧ (inB (i + 2) X.1 = true ∧ (inB (i + 3) X.1 = true ∧ Ends X dp 95 0 [.ref 0, .int (X.2 (i + 1).toNatClampNeg), .int (X.2 (i + 2).toNatClampNeg), .int (X.2 (i + 3).toNatClampNeg)] [] h (fun rv h4 => ∃ r5, rv = some (.int r5) ∧ HS h4 ∧ (inB (i + 1) X.1 = true ∧ (inB (i + 2) X.1 = true ∧ (inB (i + 3) X.1 = true ∧ Ends X dp 199 0 [.ref 93, .int (X.2 (i + 1).toNatClampNeg), .int (X.2 (i + 2).toNatClampNeg), .int (X.2 (i + 3).toNatClampNeg), .retAddr 0] [] h4 (fun rv h10 => ∃ r11, rv = some (.int r11) ∧ HS h10 ∧ Ends X (dp + 1) 0 1297 [.ref OLDB, .ref 0, .ref 93, .int i] [] h10 Q))))))))) :
    Ends X (dp + 1) 0 1085 [.ref OLDB, .ref 0, .ref 93, .int i] [] h Q := by
  have ra : ∀ {a : Nat}, a < 1000 → a ≤ OLDB := fun h => by have := OLDB_eq; omega
  refine e_aload_n (show pAt 0 1085 = some (1085, .aload_n 1, 1, []) from by decide +kernel) rfl (ra (by decide)) ?_
  refine e_aload_n (show pAt 0 1086 = some (1086, .aload_n 0, 1, []) from by decide +kernel) rfl (Nat.le_refl OLDB) ?_
  refine e_iload_n (show pAt 0 1087 = some (1087, .iload_n 3, 1, []) from by decide +kernel) rfl ?_
  refine e_iconst (c := 1) (show pAt 0 1088 = some (1088, .iconst 1, 1, []) from by decide +kernel) (by decide) ?_
  refine e_iadd (show pAt 0 1089 = some (1089, .iadd, 1, []) from by decide +kernel) ?_
  obtain ⟨c1, vc⟩ := vc
  refine e_sld (show pAt 0 1090 = some (1090, .iaload, 1, []) from by decide +kernel) c1 ?_
  refine e_aload_n (show pAt 0 1091 = some (1091, .aload_n 0, 1, []) from by decide +kernel) rfl (Nat.le_refl OLDB) ?_
  refine e_iload_n (show pAt 0 1092 = some (1092, .iload_n 3, 1, []) from by decide +kernel) rfl ?_
  refine e_iconst (c := 2) (show pAt 0 1093 = some (1093, .iconst 2, 1, []) from by decide +kernel) (by decide) ?_
  refine e_iadd (show pAt 0 1094 = some (1094, .iadd, 1, []) from by decide +kernel) ?_
  obtain ⟨c2, vc⟩ := vc
  refine e_sld (show pAt 0 1095 = some (1095, .iaload, 1, []) from by decide +kernel) c2 ?_
  refine e_aload_n (show pAt 0 1096 = some (1096, .aload_n 0, 1, []) from by decide +kernel) rfl (Nat.le_refl OLDB) ?_
  refine e_iload_n (show pAt 0 1097 = some (1097, .iload_n 3, 1, []) from by decide +kernel) rfl ?_
  refine e_iconst (c := 3) (show pAt 0 1098 = some (1098, .iconst 3, 1, []) from by decide +kernel) (by decide) ?_
  refine e_iadd (show pAt 0 1099 = some (1099, .iadd, 1, []) from by decide +kernel) ?_
  obtain ⟨c3, vc⟩ := vc
  refine e_sld (show pAt 0 1100 = some (1100, .iaload, 1, []) from by decide +kernel) c3 ?_
  refine Ends.call (show pAt 0 1101 = some (1101, .invokevirtual 149, 3, [95, 4, 0, 0, 4086, 4087, 4088]) from by decide +kernel) (isRet_none rfl) rfl (call_this (show HS h from hs) rfl rfl (by decide)) (Ends.mono vc ?_)
  rintro _ h4 ⟨r5, rfl, hs_h4, vc⟩
  refine e_pop (show pAt 0 1104 = some (1104, .pop, 1, []) from by decide +kernel) ?_
  refine e_aload_n (show pAt 0 1105 = some (1105, .aload_n 2, 1, []) from by decide +kernel) rfl (ra (by decide)) ?_
  refine e_aload_n (show pAt 0 1106 = some (1106, .aload_n 0, 1, []) from by decide +kernel) rfl (Nat.le_refl OLDB) ?_
  refine e_iload_n (show pAt 0 1107 = some (1107, .iload_n 3, 1, []) from by decide +kernel) rfl ?_
  refine e_iconst (c := 1) (show pAt 0 1108 = some (1108, .iconst 1, 1, []) from by decide +kernel) (by decide) ?_
  refine e_iadd (show pAt 0 1109 = some (1109, .iadd, 1, []) from by decide +kernel) ?_
  obtain ⟨c7, vc⟩ := vc
  refine e_sld (show pAt 0 1110 = some (1110, .iaload, 1, []) from by decide +kernel) c7 ?_
  refine e_aload_n (show pAt 0 1111 = some (1111, .aload_n 0, 1, []) from by decide +kernel) rfl (Nat.le_refl OLDB) ?_
  refine e_iload_n (show pAt 0 1112 = some (1112, .iload_n 3, 1, []) from by decide +kernel) rfl ?_
  refine e_iconst (c := 2) (show pAt 0 1113 = some (1113, .iconst 2, 1, []) from by decide +kernel) (by decide) ?_
  refine e_iadd (show pAt 0 1114 = some (1114, .iadd, 1, []) from by decide +kernel) ?_
  obtain ⟨c8, vc⟩ := vc
  refine e_sld (show pAt 0 1115 = some (1115, .iaload, 1, []) from by decide +kernel) c8 ?_
  refine e_aload_n (show pAt 0 1116 = some (1116, .aload_n 0, 1, []) from by decide +kernel) rfl (Nat.le_refl OLDB) ?_
  refine e_iload_n (show pAt 0 1117 = some (1117, .iload_n 3, 1, []) from by decide +kernel) rfl ?_
  refine e_iconst (c := 3) (show pAt 0 1118 = some (1118, .iconst 3, 1, []) from by decide +kernel) (by decide) ?_
  refine e_iadd (show pAt 0 1119 = some (1119, .iadd, 1, []) from by decide +kernel) ?_
  obtain ⟨c9, vc⟩ := vc
  refine e_sld (show pAt 0 1120 = some (1120, .iaload, 1, []) from by decide +kernel) c9 ?_
  refine Ends.call (show pAt 0 1121 = some (1121, .invokevirtual 152, 3, [199, 4, 0, 0, 6198, 6199, 6200]) from by decide +kernel) (isRet_none rfl) rfl (call_this (show HS h4 from hs_h4) rfl rfl (by decide)) (Ends.mono vc ?_)
  rintro _ h10 ⟨r11, rfl, hs_h10, vc⟩
  refine e_pop (show pAt 0 1124 = some (1124, .pop, 1, []) from by decide +kernel) ?_
  refine e_goto (t := 1297) (show pAt 0 1125 = some (1125, .goto 172, 3, []) from by decide +kernel) rfl ?_
  exact vc

theorem w_law33 {X : Scr} {dp : Nat} {h : Hp} {Q : Option Value → Hp → Prop} (i : Int32) (hs : HS h)
    (vc : (inB (i + 1) X.1 = true ∧ (inB (i + 2) X.1 = true ∧ (inB (i + 3) X.1 = true ∧ (inB (i + 4) X.1 = true ∧ Ends X dp 96 0 [.ref 0, .int (X.2 (i + 1).toNatClampNeg), .int (X.2 (i + 2).toNatClampNeg), .long ((((X.2 (i + 3).toNatClampNeg).toInt64) <<< ((32 : Int32).toInt64 &&& 63)) ||| (((X.2 (i + 4).toNatClampNeg).toInt64) &&& 4294967295)), .retAddr 0] [] h (fun rv h5 => ∃ r6, rv = some (.int r6) ∧ HS h5 ∧ (inB (i + 1) X.1 = true ∧ (inB (i + 2) X.1 = true ∧ (inB (i + 3) X.1 = true ∧ (inB (i + 4) X.1 = true ∧ Ends X dp 201 0 [.ref 93, .int (X.2 (i + 1).toNatClampNeg), .int (X.2 (i + 2).toNatClampNeg), .long ((((X.2 (i + 3).toNatClampNeg).toInt64) <<< ((32 : Int32).toInt64 &&& 63)) ||| (((X.2 (i + 4).toNatClampNeg).toInt64) &&& 4294967295)), .retAddr 0] [] h5 (fun rv h12 => ∃ r13, rv = some (.int r13) ∧ HS h12 ∧ Ends X (dp + 1) 0 1297 [.ref OLDB, .ref 0, .ref 93, .int i] [] h12 Q))))))))))) :
    Ends X (dp + 1) 0 1128 [.ref OLDB, .ref 0, .ref 93, .int i] [] h Q := by
  have ra : ∀ {a : Nat}, a < 1000 → a ≤ OLDB := fun h => by have := OLDB_eq; omega
  refine e_aload_n (show pAt 0 1128 = some (1128, .aload_n 1, 1, []) from by decide +kernel) rfl (ra (by decide)) ?_
  refine e_aload_n (show pAt 0 1129 = some (1129, .aload_n 0, 1, []) from by decide +kernel) rfl (Nat.le_refl OLDB) ?_
  refine e_iload_n (show pAt 0 1130 = some (1130, .iload_n 3, 1, []) from by decide +kernel) rfl ?_
  refine e_iconst (c := 1) (show pAt 0 1131 = some (1131, .iconst 1, 1, []) from by decide +kernel) (by decide) ?_
  refine e_iadd (show pAt 0 1132 = some (1132, .iadd, 1, []) from by decide +kernel) ?_
  obtain ⟨c1, vc⟩ := vc
  refine e_sld (show pAt 0 1133 = some (1133, .iaload, 1, []) from by decide +kernel) c1 ?_
  refine e_aload_n (show pAt 0 1134 = some (1134, .aload_n 0, 1, []) from by decide +kernel) rfl (Nat.le_refl OLDB) ?_
  refine e_iload_n (show pAt 0 1135 = some (1135, .iload_n 3, 1, []) from by decide +kernel) rfl ?_
  refine e_iconst (c := 2) (show pAt 0 1136 = some (1136, .iconst 2, 1, []) from by decide +kernel) (by decide) ?_
  refine e_iadd (show pAt 0 1137 = some (1137, .iadd, 1, []) from by decide +kernel) ?_
  obtain ⟨c2, vc⟩ := vc
  refine e_sld (show pAt 0 1138 = some (1138, .iaload, 1, []) from by decide +kernel) c2 ?_
  refine e_aload_n (show pAt 0 1139 = some (1139, .aload_n 0, 1, []) from by decide +kernel) rfl (Nat.le_refl OLDB) ?_
  refine e_iload_n (show pAt 0 1140 = some (1140, .iload_n 3, 1, []) from by decide +kernel) rfl ?_
  refine e_iconst (c := 3) (show pAt 0 1141 = some (1141, .iconst 3, 1, []) from by decide +kernel) (by decide) ?_
  refine e_iadd (show pAt 0 1142 = some (1142, .iadd, 1, []) from by decide +kernel) ?_
  obtain ⟨c3, vc⟩ := vc
  refine e_sld (show pAt 0 1143 = some (1143, .iaload, 1, []) from by decide +kernel) c3 ?_
  refine e_i2l (show pAt 0 1144 = some (1144, .i2l, 1, []) from by decide +kernel) ?_
  refine e_bipush (c := 32) (show pAt 0 1145 = some (1145, .bipush 32, 2, []) from by decide +kernel) (by decide) ?_
  refine e_lshl (show pAt 0 1147 = some (1147, .lshl, 1, []) from by decide +kernel) ?_
  refine e_aload_n (show pAt 0 1148 = some (1148, .aload_n 0, 1, []) from by decide +kernel) rfl (Nat.le_refl OLDB) ?_
  refine e_iload_n (show pAt 0 1149 = some (1149, .iload_n 3, 1, []) from by decide +kernel) rfl ?_
  refine e_iconst (c := 4) (show pAt 0 1150 = some (1150, .iconst 4, 1, []) from by decide +kernel) (by decide) ?_
  refine e_iadd (show pAt 0 1151 = some (1151, .iadd, 1, []) from by decide +kernel) ?_
  obtain ⟨c4, vc⟩ := vc
  refine e_sld (show pAt 0 1152 = some (1152, .iaload, 1, []) from by decide +kernel) c4 ?_
  refine e_i2l (show pAt 0 1153 = some (1153, .i2l, 1, []) from by decide +kernel) ?_
  refine e_ldc2 (c := 4294967295) (show pAt 0 1154 = some (1154, .ldc2_w 153, 3, [4294967295, 6218]) from by decide +kernel) (by decide) ?_
  refine e_land (show pAt 0 1157 = some (1157, .land, 1, []) from by decide +kernel) ?_
  refine e_lor (show pAt 0 1158 = some (1158, .lor, 1, []) from by decide +kernel) ?_
  refine Ends.call (show pAt 0 1159 = some (1159, .invokevirtual 155, 3, [96, 4, 0, 0, 4097, 4098, 4099]) from by decide +kernel) (isRet_none rfl) rfl (call_this (show HS h from hs) rfl rfl (by decide)) (Ends.mono vc ?_)
  rintro _ h5 ⟨r6, rfl, hs_h5, vc⟩
  refine e_pop (show pAt 0 1162 = some (1162, .pop, 1, []) from by decide +kernel) ?_
  refine e_aload_n (show pAt 0 1163 = some (1163, .aload_n 2, 1, []) from by decide +kernel) rfl (ra (by decide)) ?_
  refine e_aload_n (show pAt 0 1164 = some (1164, .aload_n 0, 1, []) from by decide +kernel) rfl (Nat.le_refl OLDB) ?_
  refine e_iload_n (show pAt 0 1165 = some (1165, .iload_n 3, 1, []) from by decide +kernel) rfl ?_
  refine e_iconst (c := 1) (show pAt 0 1166 = some (1166, .iconst 1, 1, []) from by decide +kernel) (by decide) ?_
  refine e_iadd (show pAt 0 1167 = some (1167, .iadd, 1, []) from by decide +kernel) ?_
  obtain ⟨c8, vc⟩ := vc
  refine e_sld (show pAt 0 1168 = some (1168, .iaload, 1, []) from by decide +kernel) c8 ?_
  refine e_aload_n (show pAt 0 1169 = some (1169, .aload_n 0, 1, []) from by decide +kernel) rfl (Nat.le_refl OLDB) ?_
  refine e_iload_n (show pAt 0 1170 = some (1170, .iload_n 3, 1, []) from by decide +kernel) rfl ?_
  refine e_iconst (c := 2) (show pAt 0 1171 = some (1171, .iconst 2, 1, []) from by decide +kernel) (by decide) ?_
  refine e_iadd (show pAt 0 1172 = some (1172, .iadd, 1, []) from by decide +kernel) ?_
  obtain ⟨c9, vc⟩ := vc
  refine e_sld (show pAt 0 1173 = some (1173, .iaload, 1, []) from by decide +kernel) c9 ?_
  refine e_aload_n (show pAt 0 1174 = some (1174, .aload_n 0, 1, []) from by decide +kernel) rfl (Nat.le_refl OLDB) ?_
  refine e_iload_n (show pAt 0 1175 = some (1175, .iload_n 3, 1, []) from by decide +kernel) rfl ?_
  refine e_iconst (c := 3) (show pAt 0 1176 = some (1176, .iconst 3, 1, []) from by decide +kernel) (by decide) ?_
  refine e_iadd (show pAt 0 1177 = some (1177, .iadd, 1, []) from by decide +kernel) ?_
  obtain ⟨c10, vc⟩ := vc
  refine e_sld (show pAt 0 1178 = some (1178, .iaload, 1, []) from by decide +kernel) c10 ?_
  refine e_i2l (show pAt 0 1179 = some (1179, .i2l, 1, []) from by decide +kernel) ?_
  refine e_bipush (c := 32) (show pAt 0 1180 = some (1180, .bipush 32, 2, []) from by decide +kernel) (by decide) ?_
  refine e_lshl (show pAt 0 1182 = some (1182, .lshl, 1, []) from by decide +kernel) ?_
  refine e_aload_n (show pAt 0 1183 = some (1183, .aload_n 0, 1, []) from by decide +kernel) rfl (Nat.le_refl OLDB) ?_
  refine e_iload_n (show pAt 0 1184 = some (1184, .iload_n 3, 1, []) from by decide +kernel) rfl ?_
  refine e_iconst (c := 4) (show pAt 0 1185 = some (1185, .iconst 4, 1, []) from by decide +kernel) (by decide) ?_
  refine e_iadd (show pAt 0 1186 = some (1186, .iadd, 1, []) from by decide +kernel) ?_
  obtain ⟨c11, vc⟩ := vc
  refine e_sld (show pAt 0 1187 = some (1187, .iaload, 1, []) from by decide +kernel) c11 ?_
  refine e_i2l (show pAt 0 1188 = some (1188, .i2l, 1, []) from by decide +kernel) ?_
  refine e_ldc2 (c := 4294967295) (show pAt 0 1189 = some (1189, .ldc2_w 153, 3, [4294967295, 6218]) from by decide +kernel) (by decide) ?_
  refine e_land (show pAt 0 1192 = some (1192, .land, 1, []) from by decide +kernel) ?_
  refine e_lor (show pAt 0 1193 = some (1193, .lor, 1, []) from by decide +kernel) ?_
  refine Ends.call (show pAt 0 1194 = some (1194, .invokevirtual 159, 3, [201, 4, 0, 0, 6202, 6203, 6204]) from by decide +kernel) (isRet_none rfl) rfl (call_this (show HS h5 from hs_h5) rfl rfl (by decide)) (Ends.mono vc ?_)
  rintro _ h12 ⟨r13, rfl, hs_h12, vc⟩
  refine e_pop (show pAt 0 1197 = some (1197, .pop, 1, []) from by decide +kernel) ?_
  refine e_goto (t := 1297) (show pAt 0 1198 = some (1198, .goto 99, 3, []) from by decide +kernel) rfl ?_
  exact vc

theorem w_law34 {X : Scr} {dp : Nat} {h : Hp} {Q : Option Value → Hp → Prop} (i : Int32) (hs : HS h)
    (vc : (inB (i + 1) X.1 = true ∧ (inB (i + 2) X.1 = true ∧ Ends X dp 97 0 [.ref 0, .int (X.2 (i + 1).toNatClampNeg), .int (X.2 (i + 2).toNatClampNeg)] [] h (fun rv h3 => ∃ r4, rv = some (.long r4) ∧ HS h3 ∧ (inB (i + 1) X.1 = true ∧ (inB (i + 2) X.1 = true ∧ Ends X dp 202 0 [.ref 93, .int (X.2 (i + 1).toNatClampNeg), .int (X.2 (i + 2).toNatClampNeg)] [] h3 (fun rv h8 => ∃ r9, rv = some (.long r9) ∧ HS h8 ∧ Ends X (dp + 1) 0 1297 [.ref OLDB, .ref 0, .ref 93, .int i] [] h8 Q))))))) :
    Ends X (dp + 1) 0 1201 [.ref OLDB, .ref 0, .ref 93, .int i] [] h Q := by
  have ra : ∀ {a : Nat}, a < 1000 → a ≤ OLDB := fun h => by have := OLDB_eq; omega
  refine e_aload_n (show pAt 0 1201 = some (1201, .aload_n 1, 1, []) from by decide +kernel) rfl (ra (by decide)) ?_
  refine e_aload_n (show pAt 0 1202 = some (1202, .aload_n 0, 1, []) from by decide +kernel) rfl (Nat.le_refl OLDB) ?_
  refine e_iload_n (show pAt 0 1203 = some (1203, .iload_n 3, 1, []) from by decide +kernel) rfl ?_
  refine e_iconst (c := 1) (show pAt 0 1204 = some (1204, .iconst 1, 1, []) from by decide +kernel) (by decide) ?_
  refine e_iadd (show pAt 0 1205 = some (1205, .iadd, 1, []) from by decide +kernel) ?_
  obtain ⟨c1, vc⟩ := vc
  refine e_sld (show pAt 0 1206 = some (1206, .iaload, 1, []) from by decide +kernel) c1 ?_
  refine e_aload_n (show pAt 0 1207 = some (1207, .aload_n 0, 1, []) from by decide +kernel) rfl (Nat.le_refl OLDB) ?_
  refine e_iload_n (show pAt 0 1208 = some (1208, .iload_n 3, 1, []) from by decide +kernel) rfl ?_
  refine e_iconst (c := 2) (show pAt 0 1209 = some (1209, .iconst 2, 1, []) from by decide +kernel) (by decide) ?_
  refine e_iadd (show pAt 0 1210 = some (1210, .iadd, 1, []) from by decide +kernel) ?_
  obtain ⟨c2, vc⟩ := vc
  refine e_sld (show pAt 0 1211 = some (1211, .iaload, 1, []) from by decide +kernel) c2 ?_
  refine Ends.call (show pAt 0 1212 = some (1212, .invokevirtual 160, 3, [97, 3, 0, 0, 4104, 4105, 4106]) from by decide +kernel) (isRet_none rfl) rfl (call_this (show HS h from hs) rfl rfl (by decide)) (Ends.mono vc ?_)
  rintro _ h3 ⟨r4, rfl, hs_h3, vc⟩
  refine e_pop2 (show pAt 0 1215 = some (1215, .pop2, 1, []) from by decide +kernel) ?_
  refine e_aload_n (show pAt 0 1216 = some (1216, .aload_n 2, 1, []) from by decide +kernel) rfl (ra (by decide)) ?_
  refine e_aload_n (show pAt 0 1217 = some (1217, .aload_n 0, 1, []) from by decide +kernel) rfl (Nat.le_refl OLDB) ?_
  refine e_iload_n (show pAt 0 1218 = some (1218, .iload_n 3, 1, []) from by decide +kernel) rfl ?_
  refine e_iconst (c := 1) (show pAt 0 1219 = some (1219, .iconst 1, 1, []) from by decide +kernel) (by decide) ?_
  refine e_iadd (show pAt 0 1220 = some (1220, .iadd, 1, []) from by decide +kernel) ?_
  obtain ⟨c6, vc⟩ := vc
  refine e_sld (show pAt 0 1221 = some (1221, .iaload, 1, []) from by decide +kernel) c6 ?_
  refine e_aload_n (show pAt 0 1222 = some (1222, .aload_n 0, 1, []) from by decide +kernel) rfl (Nat.le_refl OLDB) ?_
  refine e_iload_n (show pAt 0 1223 = some (1223, .iload_n 3, 1, []) from by decide +kernel) rfl ?_
  refine e_iconst (c := 2) (show pAt 0 1224 = some (1224, .iconst 2, 1, []) from by decide +kernel) (by decide) ?_
  refine e_iadd (show pAt 0 1225 = some (1225, .iadd, 1, []) from by decide +kernel) ?_
  obtain ⟨c7, vc⟩ := vc
  refine e_sld (show pAt 0 1226 = some (1226, .iaload, 1, []) from by decide +kernel) c7 ?_
  refine Ends.call (show pAt 0 1227 = some (1227, .invokevirtual 163, 3, [202, 3, 0, 0, 6210, 6211, 6212]) from by decide +kernel) (isRet_none rfl) rfl (call_this (show HS h3 from hs_h3) rfl rfl (by decide)) (Ends.mono vc ?_)
  rintro _ h8 ⟨r9, rfl, hs_h8, vc⟩
  refine e_pop2 (show pAt 0 1230 = some (1230, .pop2, 1, []) from by decide +kernel) ?_
  refine e_goto (t := 1297) (show pAt 0 1231 = some (1231, .goto 66, 3, []) from by decide +kernel) rfl ?_
  exact vc

theorem w_law35 {X : Scr} {dp : Nat} {h : Hp} {Q : Option Value → Hp → Prop} (i : Int32) (hs : HS h)
    (vc : (inB (i + 1) X.1 = true ∧ (inB (i + 2) X.1 = true ∧ (inB (i + 3) X.1 = true ∧ (inB (i + 4) X.1 = true ∧ (inB (i + 5) X.1 = true ∧ Ends X dp 98 0 [.ref 0, .int (X.2 (i + 1).toNatClampNeg), .int (X.2 (i + 2).toNatClampNeg), .int (X.2 (i + 3).toNatClampNeg), .int (X.2 (i + 4).toNatClampNeg), .int (X.2 (i + 5).toNatClampNeg)] [] h (fun rv h6 => ∃ r7, rv = some (.int r7) ∧ HS h6 ∧ (inB (i + 1) X.1 = true ∧ (inB (i + 2) X.1 = true ∧ (inB (i + 3) X.1 = true ∧ (inB (i + 4) X.1 = true ∧ (inB (i + 5) X.1 = true ∧ Ends X dp 203 0 [.ref 93, .int (X.2 (i + 1).toNatClampNeg), .int (X.2 (i + 2).toNatClampNeg), .int (X.2 (i + 3).toNatClampNeg), .int (X.2 (i + 4).toNatClampNeg), .int (X.2 (i + 5).toNatClampNeg), .retAddr 0] [] h6 (fun rv h14 => ∃ r15, rv = some (.int r15) ∧ HS h14 ∧ Ends X (dp + 1) 0 1297 [.ref OLDB, .ref 0, .ref 93, .int i] [] h14 Q))))))))))))) :
    Ends X (dp + 1) 0 1234 [.ref OLDB, .ref 0, .ref 93, .int i] [] h Q := by
  have ra : ∀ {a : Nat}, a < 1000 → a ≤ OLDB := fun h => by have := OLDB_eq; omega
  refine e_aload_n (show pAt 0 1234 = some (1234, .aload_n 1, 1, []) from by decide +kernel) rfl (ra (by decide)) ?_
  refine e_aload_n (show pAt 0 1235 = some (1235, .aload_n 0, 1, []) from by decide +kernel) rfl (Nat.le_refl OLDB) ?_
  refine e_iload_n (show pAt 0 1236 = some (1236, .iload_n 3, 1, []) from by decide +kernel) rfl ?_
  refine e_iconst (c := 1) (show pAt 0 1237 = some (1237, .iconst 1, 1, []) from by decide +kernel) (by decide) ?_
  refine e_iadd (show pAt 0 1238 = some (1238, .iadd, 1, []) from by decide +kernel) ?_
  obtain ⟨c1, vc⟩ := vc
  refine e_sld (show pAt 0 1239 = some (1239, .iaload, 1, []) from by decide +kernel) c1 ?_
  refine e_aload_n (show pAt 0 1240 = some (1240, .aload_n 0, 1, []) from by decide +kernel) rfl (Nat.le_refl OLDB) ?_
  refine e_iload_n (show pAt 0 1241 = some (1241, .iload_n 3, 1, []) from by decide +kernel) rfl ?_
  refine e_iconst (c := 2) (show pAt 0 1242 = some (1242, .iconst 2, 1, []) from by decide +kernel) (by decide) ?_
  refine e_iadd (show pAt 0 1243 = some (1243, .iadd, 1, []) from by decide +kernel) ?_
  obtain ⟨c2, vc⟩ := vc
  refine e_sld (show pAt 0 1244 = some (1244, .iaload, 1, []) from by decide +kernel) c2 ?_
  refine e_aload_n (show pAt 0 1245 = some (1245, .aload_n 0, 1, []) from by decide +kernel) rfl (Nat.le_refl OLDB) ?_
  refine e_iload_n (show pAt 0 1246 = some (1246, .iload_n 3, 1, []) from by decide +kernel) rfl ?_
  refine e_iconst (c := 3) (show pAt 0 1247 = some (1247, .iconst 3, 1, []) from by decide +kernel) (by decide) ?_
  refine e_iadd (show pAt 0 1248 = some (1248, .iadd, 1, []) from by decide +kernel) ?_
  obtain ⟨c3, vc⟩ := vc
  refine e_sld (show pAt 0 1249 = some (1249, .iaload, 1, []) from by decide +kernel) c3 ?_
  refine e_aload_n (show pAt 0 1250 = some (1250, .aload_n 0, 1, []) from by decide +kernel) rfl (Nat.le_refl OLDB) ?_
  refine e_iload_n (show pAt 0 1251 = some (1251, .iload_n 3, 1, []) from by decide +kernel) rfl ?_
  refine e_iconst (c := 4) (show pAt 0 1252 = some (1252, .iconst 4, 1, []) from by decide +kernel) (by decide) ?_
  refine e_iadd (show pAt 0 1253 = some (1253, .iadd, 1, []) from by decide +kernel) ?_
  obtain ⟨c4, vc⟩ := vc
  refine e_sld (show pAt 0 1254 = some (1254, .iaload, 1, []) from by decide +kernel) c4 ?_
  refine e_aload_n (show pAt 0 1255 = some (1255, .aload_n 0, 1, []) from by decide +kernel) rfl (Nat.le_refl OLDB) ?_
  refine e_iload_n (show pAt 0 1256 = some (1256, .iload_n 3, 1, []) from by decide +kernel) rfl ?_
  refine e_iconst (c := 5) (show pAt 0 1257 = some (1257, .iconst 5, 1, []) from by decide +kernel) (by decide) ?_
  refine e_iadd (show pAt 0 1258 = some (1258, .iadd, 1, []) from by decide +kernel) ?_
  obtain ⟨c5, vc⟩ := vc
  refine e_sld (show pAt 0 1259 = some (1259, .iaload, 1, []) from by decide +kernel) c5 ?_
  refine Ends.call (show pAt 0 1260 = some (1260, .invokevirtual 164, 3, [98, 6, 0, 0, 4108, 4109, 4110]) from by decide +kernel) (isRet_none rfl) rfl (call_this (show HS h from hs) rfl rfl (by decide)) (Ends.mono vc ?_)
  rintro _ h6 ⟨r7, rfl, hs_h6, vc⟩
  refine e_pop (show pAt 0 1263 = some (1263, .pop, 1, []) from by decide +kernel) ?_
  refine e_aload_n (show pAt 0 1264 = some (1264, .aload_n 2, 1, []) from by decide +kernel) rfl (ra (by decide)) ?_
  refine e_aload_n (show pAt 0 1265 = some (1265, .aload_n 0, 1, []) from by decide +kernel) rfl (Nat.le_refl OLDB) ?_
  refine e_iload_n (show pAt 0 1266 = some (1266, .iload_n 3, 1, []) from by decide +kernel) rfl ?_
  refine e_iconst (c := 1) (show pAt 0 1267 = some (1267, .iconst 1, 1, []) from by decide +kernel) (by decide) ?_
  refine e_iadd (show pAt 0 1268 = some (1268, .iadd, 1, []) from by decide +kernel) ?_
  obtain ⟨c9, vc⟩ := vc
  refine e_sld (show pAt 0 1269 = some (1269, .iaload, 1, []) from by decide +kernel) c9 ?_
  refine e_aload_n (show pAt 0 1270 = some (1270, .aload_n 0, 1, []) from by decide +kernel) rfl (Nat.le_refl OLDB) ?_
  refine e_iload_n (show pAt 0 1271 = some (1271, .iload_n 3, 1, []) from by decide +kernel) rfl ?_
  refine e_iconst (c := 2) (show pAt 0 1272 = some (1272, .iconst 2, 1, []) from by decide +kernel) (by decide) ?_
  refine e_iadd (show pAt 0 1273 = some (1273, .iadd, 1, []) from by decide +kernel) ?_
  obtain ⟨c10, vc⟩ := vc
  refine e_sld (show pAt 0 1274 = some (1274, .iaload, 1, []) from by decide +kernel) c10 ?_
  refine e_aload_n (show pAt 0 1275 = some (1275, .aload_n 0, 1, []) from by decide +kernel) rfl (Nat.le_refl OLDB) ?_
  refine e_iload_n (show pAt 0 1276 = some (1276, .iload_n 3, 1, []) from by decide +kernel) rfl ?_
  refine e_iconst (c := 3) (show pAt 0 1277 = some (1277, .iconst 3, 1, []) from by decide +kernel) (by decide) ?_
  refine e_iadd (show pAt 0 1278 = some (1278, .iadd, 1, []) from by decide +kernel) ?_
  obtain ⟨c11, vc⟩ := vc
  refine e_sld (show pAt 0 1279 = some (1279, .iaload, 1, []) from by decide +kernel) c11 ?_
  refine e_aload_n (show pAt 0 1280 = some (1280, .aload_n 0, 1, []) from by decide +kernel) rfl (Nat.le_refl OLDB) ?_
  refine e_iload_n (show pAt 0 1281 = some (1281, .iload_n 3, 1, []) from by decide +kernel) rfl ?_
  refine e_iconst (c := 4) (show pAt 0 1282 = some (1282, .iconst 4, 1, []) from by decide +kernel) (by decide) ?_
  refine e_iadd (show pAt 0 1283 = some (1283, .iadd, 1, []) from by decide +kernel) ?_
  obtain ⟨c12, vc⟩ := vc
  refine e_sld (show pAt 0 1284 = some (1284, .iaload, 1, []) from by decide +kernel) c12 ?_
  refine e_aload_n (show pAt 0 1285 = some (1285, .aload_n 0, 1, []) from by decide +kernel) rfl (Nat.le_refl OLDB) ?_
  refine e_iload_n (show pAt 0 1286 = some (1286, .iload_n 3, 1, []) from by decide +kernel) rfl ?_
  refine e_iconst (c := 5) (show pAt 0 1287 = some (1287, .iconst 5, 1, []) from by decide +kernel) (by decide) ?_
  refine e_iadd (show pAt 0 1288 = some (1288, .iadd, 1, []) from by decide +kernel) ?_
  obtain ⟨c13, vc⟩ := vc
  refine e_sld (show pAt 0 1289 = some (1289, .iaload, 1, []) from by decide +kernel) c13 ?_
  refine Ends.call (show pAt 0 1290 = some (1290, .invokevirtual 167, 3, [203, 6, 0, 0, 6214, 6215, 6216]) from by decide +kernel) (isRet_none rfl) rfl (call_this (show HS h6 from hs_h6) rfl rfl (by decide)) (Ends.mono vc ?_)
  rintro _ h14 ⟨r15, rfl, hs_h14, vc⟩
  refine e_pop (show pAt 0 1293 = some (1293, .pop, 1, []) from by decide +kernel) ?_
  refine e_goto (t := 1297) (show pAt 0 1294 = some (1294, .goto 3, 3, []) from by decide +kernel) rfl ?_
  exact vc
