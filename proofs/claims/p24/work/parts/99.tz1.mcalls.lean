section JN99tz1mcalls
/-! What is owed for the calls that ask of a shout: the reference. -/
theorem w_mof {X : Scr} {dp : Nat} {h : Hp} {Q : Option Value → Hp → Prop} (p : Int32) (w : Int32) (hs : HS h)
    (vc : Ends X dp 112 0 [.ref 93, .int p] [] h (fun rv h1 => ∃ r2, rv = some (.int r2) ∧ HS h1 ∧ ((condB .ne r2 0 = true → (((w.toInt < 0 ∨ 9 < w.toInt) → Q (some (.int (-1))) h1) ∧ (w.toInt = 0 → (inB p 7 = true ∧ Q (some (.int (h1.2.1 94 p.toNatClampNeg))) h1)) ∧ (w.toInt = 1 → (inB p 7 = true ∧ Q (some (.int (h1.2.1 95 p.toNatClampNeg))) h1)) ∧ (w.toInt = 2 → (inB p 7 = true ∧ Q (some (.int (h1.2.1 96 p.toNatClampNeg))) h1)) ∧ (w.toInt = 3 → (inB p 7 = true ∧ Q (some (.int (h1.2.1 97 p.toNatClampNeg))) h1)) ∧ (w.toInt = 4 → (inB p 7 = true ∧ Q (some (.int (h1.2.1 98 p.toNatClampNeg))) h1)) ∧ (w.toInt = 5 → Q (some (.int (((h1.2.1 93 2) >>> (p &&& 31)) &&& 1))) h1) ∧ (w.toInt = 6 → Ends X dp 139 0 [.ref 93, .int p] [] h1 (fun rv h12 => ∃ r13, rv = some (.int r13) ∧ HS h12 ∧ ((condB .eq r13 0 = true → Q (some (.int (-5))) h12) ∧ (condB .eq r13 0 = false → Ends X dp 147 0 [.ref 93, .int p] [] h12 (fun rv h16 => ∃ r17, rv = some (.int r17) ∧ HS h16 ∧ Q (some (.int r17)) h16))))) ∧ (w.toInt = 7 → Ends X dp 139 0 [.ref 93, .int p] [] h1 (fun rv h19 => ∃ r20, rv = some (.int r20) ∧ HS h19 ∧ ((condB .eq r20 0 = true → Ends X dp 140 0 [.ref 93, .int p] [] h19 (fun rv h23 => ∃ r24, rv = some (.int r24) ∧ HS h23 ∧ Q (some (.int r24)) h23)) ∧ (condB .eq r20 0 = false → Q (some (.int (-5))) h19)))) ∧ (w.toInt = 8 → Ends X dp 139 0 [.ref 93, .int p] [] h1 (fun rv h26 => ∃ r27, rv = some (.int r27) ∧ HS h26 ∧ ((condB .eq r27 0 = true → Ends X dp 141 0 [.ref 93, .int p] [] h26 (fun rv h30 => ∃ r31, rv = some (.int r31) ∧ HS h30 ∧ Q (some (.int r31)) h30)) ∧ (condB .eq r27 0 = false → Q (some (.int (-5))) h26)))) ∧ (w.toInt = 9 → Ends X dp 139 0 [.ref 93, .int p] [] h1 (fun rv h33 => ∃ r34, rv = some (.int r34) ∧ HS h33 ∧ ((condB .eq r34 0 = true → Q (some (.int (-5))) h33) ∧ (condB .eq r34 0 = false → Ends X dp 148 0 [.ref 93, .int p] [] h33 (fun rv h37 => ∃ r38, rv = some (.int r38) ∧ HS h37 ∧ Q (some (.int r38)) h37))))))) ∧ (condB .ne r2 0 = false → Q (some (.int (-1))) h1)))) :
    Ends X (dp + 1) 149 0 [.ref 93, .int p, .int w] [] h Q := by
  have ra : ∀ {a : Nat}, a < 1000 → a ≤ OLDB := fun h => by have := OLDB_eq; omega
  refine e_aload_n (show pAt 149 0 = some (0, .aload_n 0, 1, []) from by decide +kernel) rfl (ra (by decide)) ?_
  refine e_iload_n (show pAt 149 1 = some (1, .iload_n 1, 1, []) from by decide +kernel) rfl ?_
  refine Ends.call (show pAt 149 2 = some (2, .invokevirtual 210, 3, [112, 2, 0, 0, 5089, 5091, 55]) from by decide +kernel) (isRet_none rfl) rfl (call_this (show HS h from hs) rfl rfl (by decide)) (Ends.mono vc ?_)
  rintro _ h1 ⟨r2, rfl, hs_h1, vc⟩
  refine e_if (t := 10) (show pAt 149 5 = some (5, .ifCond .ne 5, 3, []) from by decide +kernel) rfl (fun c4 => ?_) (fun c4 => ?_)
  · replace vc := vc.1 c4
    refine e_iload_n (show pAt 149 10 = some (10, .iload_n 2, 1, []) from by decide +kernel) rfl ?_
    rcases (show (w.toInt < 0 ∨ 9 < w.toInt) ∨ w.toInt = 0 ∨ w.toInt = 1 ∨ w.toInt = 2 ∨ w.toInt = 3 ∨ w.toInt = 4 ∨ w.toInt = 5 ∨ w.toInt = 6 ∨ w.toInt = 7 ∨ w.toInt = 8 ∨ w.toInt = 9 from by omega) with c5 | c5 | c5 | c5 | c5 | c5 | c5 | c5 | c5 | c5 | c5
    · refine e_tsd (t := 184) (show pAt 149 11 = some (11, .tableswitch 173 0 9 #[53, 60, 67, 74, 81, 88, 97, 116, 135, 154], 53, []) from by decide +kernel) c5 rfl ?_
      replace vc := vc.1 c5
      refine e_iconst (c := (-1)) (show pAt 149 184 = some (184, .iconst (-1), 1, []) from by decide +kernel) (by decide) ?_
      exact e_retI (show pAt 149 185 = some (185, .ireturn, 1, []) from by decide +kernel) rfl vc
    · refine e_tsc (t := 64) 0 (show pAt 149 11 = some (11, .tableswitch 173 0 9 #[53, 60, 67, 74, 81, 88, 97, 116, 135, 154], 53, []) from by decide +kernel) (by omega) (by omega) rfl rfl ?_
      replace vc := vc.2.1 c5
      refine e_aload_n (show pAt 149 64 = some (64, .aload_n 0, 1, []) from by decide +kernel) rfl (ra (by decide)) ?_
      refine e_gR (show pAt 149 65 = some (65, .getfield 19, 3, [7, 3, 0, 4126]) from by decide +kernel) (show HS h1 from hs_h1) rfl (by decide) (hs_ref (show HS h1 from hs_h1) rfl) ?_
      refine e_iload_n (show pAt 149 68 = some (68, .iload_n 1, 1, []) from by decide +kernel) rfl ?_
      obtain ⟨c7, vc⟩ := vc
      refine e_aldv (v := h1.2.1 94 p.toNatClampNeg) (show pAt 149 69 = some (69, .iaload, 1, []) from by decide +kernel) (show HS h1 from hs_h1) (by decide) c7 rfl ?_
      exact e_retI (show pAt 149 70 = some (70, .ireturn, 1, []) from by decide +kernel) rfl vc
    · refine e_tsc (t := 71) 1 (show pAt 149 11 = some (11, .tableswitch 173 0 9 #[53, 60, 67, 74, 81, 88, 97, 116, 135, 154], 53, []) from by decide +kernel) (by omega) (by omega) rfl rfl ?_
      replace vc := vc.2.2.1 c5
      refine e_aload_n (show pAt 149 71 = some (71, .aload_n 0, 1, []) from by decide +kernel) rfl (ra (by decide)) ?_
      refine e_gR (show pAt 149 72 = some (72, .getfield 23, 3, [7, 4, 0, 4127]) from by decide +kernel) (show HS h1 from hs_h1) rfl (by decide) (hs_ref (show HS h1 from hs_h1) rfl) ?_
      refine e_iload_n (show pAt 149 75 = some (75, .iload_n 1, 1, []) from by decide +kernel) rfl ?_
      obtain ⟨c8, vc⟩ := vc
      refine e_aldv (v := h1.2.1 95 p.toNatClampNeg) (show pAt 149 76 = some (76, .iaload, 1, []) from by decide +kernel) (show HS h1 from hs_h1) (by decide) c8 rfl ?_
      exact e_retI (show pAt 149 77 = some (77, .ireturn, 1, []) from by decide +kernel) rfl vc
    · refine e_tsc (t := 78) 2 (show pAt 149 11 = some (11, .tableswitch 173 0 9 #[53, 60, 67, 74, 81, 88, 97, 116, 135, 154], 53, []) from by decide +kernel) (by omega) (by omega) rfl rfl ?_
      replace vc := vc.2.2.2.1 c5
      refine e_aload_n (show pAt 149 78 = some (78, .aload_n 0, 1, []) from by decide +kernel) rfl (ra (by decide)) ?_
      refine e_gR (show pAt 149 79 = some (79, .getfield 26, 3, [7, 5, 0, 4128]) from by decide +kernel) (show HS h1 from hs_h1) rfl (by decide) (hs_ref (show HS h1 from hs_h1) rfl) ?_
      refine e_iload_n (show pAt 149 82 = some (82, .iload_n 1, 1, []) from by decide +kernel) rfl ?_
      obtain ⟨c9, vc⟩ := vc
      refine e_aldv (v := h1.2.1 96 p.toNatClampNeg) (show pAt 149 83 = some (83, .iaload, 1, []) from by decide +kernel) (show HS h1 from hs_h1) (by decide) c9 rfl ?_
      exact e_retI (show pAt 149 84 = some (84, .ireturn, 1, []) from by decide +kernel) rfl vc
    · refine e_tsc (t := 85) 3 (show pAt 149 11 = some (11, .tableswitch 173 0 9 #[53, 60, 67, 74, 81, 88, 97, 116, 135, 154], 53, []) from by decide +kernel) (by omega) (by omega) rfl rfl ?_
      replace vc := vc.2.2.2.2.1 c5
      refine e_aload_n (show pAt 149 85 = some (85, .aload_n 0, 1, []) from by decide +kernel) rfl (ra (by decide)) ?_
      refine e_gR (show pAt 149 86 = some (86, .getfield 29, 3, [7, 6, 0, 4129]) from by decide +kernel) (show HS h1 from hs_h1) rfl (by decide) (hs_ref (show HS h1 from hs_h1) rfl) ?_
      refine e_iload_n (show pAt 149 89 = some (89, .iload_n 1, 1, []) from by decide +kernel) rfl ?_
      obtain ⟨c10, vc⟩ := vc
      refine e_aldv (v := h1.2.1 97 p.toNatClampNeg) (show pAt 149 90 = some (90, .iaload, 1, []) from by decide +kernel) (show HS h1 from hs_h1) (by decide) c10 rfl ?_
      exact e_retI (show pAt 149 91 = some (91, .ireturn, 1, []) from by decide +kernel) rfl vc
    · refine e_tsc (t := 92) 4 (show pAt 149 11 = some (11, .tableswitch 173 0 9 #[53, 60, 67, 74, 81, 88, 97, 116, 135, 154], 53, []) from by decide +kernel) (by omega) (by omega) rfl rfl ?_
      replace vc := vc.2.2.2.2.2.1 c5
      refine e_aload_n (show pAt 149 92 = some (92, .aload_n 0, 1, []) from by decide +kernel) rfl (ra (by decide)) ?_
      refine e_gR (show pAt 149 93 = some (93, .getfield 32, 3, [7, 7, 0, 4130]) from by decide +kernel) (show HS h1 from hs_h1) rfl (by decide) (hs_ref (show HS h1 from hs_h1) rfl) ?_
      refine e_iload_n (show pAt 149 96 = some (96, .iload_n 1, 1, []) from by decide +kernel) rfl ?_
      obtain ⟨c11, vc⟩ := vc
      refine e_aldv (v := h1.2.1 98 p.toNatClampNeg) (show pAt 149 97 = some (97, .iaload, 1, []) from by decide +kernel) (show HS h1 from hs_h1) (by decide) c11 rfl ?_
      exact e_retI (show pAt 149 98 = some (98, .ireturn, 1, []) from by decide +kernel) rfl vc
    · refine e_tsc (t := 99) 5 (show pAt 149 11 = some (11, .tableswitch 173 0 9 #[53, 60, 67, 74, 81, 88, 97, 116, 135, 154], 53, []) from by decide +kernel) (by omega) (by omega) rfl rfl ?_
      replace vc := vc.2.2.2.2.2.2.1 c5
      refine e_aload_n (show pAt 149 99 = some (99, .aload_n 0, 1, []) from by decide +kernel) rfl (ra (by decide)) ?_
      refine e_gIv (v := h1.2.1 93 2) (show pAt 149 100 = some (100, .getfield 16, 3, [7, 2, 0, 4125]) from by decide +kernel) (show HS h1 from hs_h1) rfl (by decide) rfl ?_
      refine e_iload_n (show pAt 149 103 = some (103, .iload_n 1, 1, []) from by decide +kernel) rfl ?_
      refine e_ishr (show pAt 149 104 = some (104, .ishr, 1, []) from by decide +kernel) ?_
      refine e_iconst (c := 1) (show pAt 149 105 = some (105, .iconst 1, 1, []) from by decide +kernel) (by decide) ?_
      refine e_iand (show pAt 149 106 = some (106, .iand, 1, []) from by decide +kernel) ?_
      exact e_retI (show pAt 149 107 = some (107, .ireturn, 1, []) from by decide +kernel) rfl vc
    · refine e_tsc (t := 108) 6 (show pAt 149 11 = some (11, .tableswitch 173 0 9 #[53, 60, 67, 74, 81, 88, 97, 116, 135, 154], 53, []) from by decide +kernel) (by omega) (by omega) rfl rfl ?_
      replace vc := vc.2.2.2.2.2.2.2.1 c5
      refine e_aload_n (show pAt 149 108 = some (108, .aload_n 0, 1, []) from by decide +kernel) rfl (ra (by decide)) ?_
      refine e_iload_n (show pAt 149 109 = some (109, .iload_n 1, 1, []) from by decide +kernel) rfl ?_
      refine Ends.call (show pAt 149 110 = some (110, .invokevirtual 291, 3, [139, 2, 0, 0, 5169, 5171, 70]) from by decide +kernel) (isRet_none rfl) rfl (call_this (show HS h1 from hs_h1) rfl rfl (by decide)) (Ends.mono vc ?_)
      rintro _ h12 ⟨r13, rfl, hs_h12, vc⟩
      refine e_if (t := 124) (show pAt 149 113 = some (113, .ifCond .eq 11, 3, []) from by decide +kernel) rfl (fun c15 => ?_) (fun c15 => ?_)
      · replace vc := vc.1 c15
        refine e_bipush (c := (-5)) (show pAt 149 124 = some (124, .bipush (-5), 2, []) from by decide +kernel) (by decide) ?_
        exact e_retI (show pAt 149 126 = some (126, .ireturn, 1, []) from by decide +kernel) rfl vc
      · replace vc := vc.2 c15
        refine e_aload_n (show pAt 149 116 = some (116, .aload_n 0, 1, []) from by decide +kernel) rfl (ra (by decide)) ?_
        refine e_iload_n (show pAt 149 117 = some (117, .iload_n 1, 1, []) from by decide +kernel) rfl ?_
        refine Ends.call (show pAt 149 118 = some (118, .invokevirtual 303, 3, [147, 2, 0, 0, 5177, 5179, 72]) from by decide +kernel) (isRet_none rfl) rfl (call_this (show HS h12 from hs_h12) rfl rfl (by decide)) (Ends.mono vc ?_)
        rintro _ h16 ⟨r17, rfl, hs_h16, vc⟩
        refine e_goto (t := 126) (show pAt 149 121 = some (121, .goto 5, 3, []) from by decide +kernel) rfl ?_
        exact e_retI (show pAt 149 126 = some (126, .ireturn, 1, []) from by decide +kernel) rfl vc
    · refine e_tsc (t := 127) 7 (show pAt 149 11 = some (11, .tableswitch 173 0 9 #[53, 60, 67, 74, 81, 88, 97, 116, 135, 154], 53, []) from by decide +kernel) (by omega) (by omega) rfl rfl ?_
      replace vc := vc.2.2.2.2.2.2.2.2.1 c5
      refine e_aload_n (show pAt 149 127 = some (127, .aload_n 0, 1, []) from by decide +kernel) rfl (ra (by decide)) ?_
      refine e_iload_n (show pAt 149 128 = some (128, .iload_n 1, 1, []) from by decide +kernel) rfl ?_
      refine Ends.call (show pAt 149 129 = some (129, .invokevirtual 291, 3, [139, 2, 0, 0, 5169, 5171, 70]) from by decide +kernel) (isRet_none rfl) rfl (call_this (show HS h1 from hs_h1) rfl rfl (by decide)) (Ends.mono vc ?_)
      rintro _ h19 ⟨r20, rfl, hs_h19, vc⟩
      refine e_if (t := 140) (show pAt 149 132 = some (132, .ifCond .eq 8, 3, []) from by decide +kernel) rfl (fun c22 => ?_) (fun c22 => ?_)
      · replace vc := vc.1 c22
        refine e_aload_n (show pAt 149 140 = some (140, .aload_n 0, 1, []) from by decide +kernel) rfl (ra (by decide)) ?_
        refine e_iload_n (show pAt 149 141 = some (141, .iload_n 1, 1, []) from by decide +kernel) rfl ?_
        refine Ends.call (show pAt 149 142 = some (142, .invokevirtual 285, 3, [140, 2, 0, 0, 5201, 5203, 78]) from by decide +kernel) (isRet_none rfl) rfl (call_this (show HS h19 from hs_h19) rfl rfl (by decide)) (Ends.mono vc ?_)
        rintro _ h23 ⟨r24, rfl, hs_h23, vc⟩
        exact e_retI (show pAt 149 145 = some (145, .ireturn, 1, []) from by decide +kernel) rfl vc
      · replace vc := vc.2 c22
        refine e_bipush (c := (-5)) (show pAt 149 135 = some (135, .bipush (-5), 2, []) from by decide +kernel) (by decide) ?_
        refine e_goto (t := 145) (show pAt 149 137 = some (137, .goto 8, 3, []) from by decide +kernel) rfl ?_
        exact e_retI (show pAt 149 145 = some (145, .ireturn, 1, []) from by decide +kernel) rfl vc
    · refine e_tsc (t := 146) 8 (show pAt 149 11 = some (11, .tableswitch 173 0 9 #[53, 60, 67, 74, 81, 88, 97, 116, 135, 154], 53, []) from by decide +kernel) (by omega) (by omega) rfl rfl ?_
      replace vc := vc.2.2.2.2.2.2.2.2.2.1 c5
      refine e_aload_n (show pAt 149 146 = some (146, .aload_n 0, 1, []) from by decide +kernel) rfl (ra (by decide)) ?_
      refine e_iload_n (show pAt 149 147 = some (147, .iload_n 1, 1, []) from by decide +kernel) rfl ?_
      refine Ends.call (show pAt 149 148 = some (148, .invokevirtual 291, 3, [139, 2, 0, 0, 5169, 5171, 70]) from by decide +kernel) (isRet_none rfl) rfl (call_this (show HS h1 from hs_h1) rfl rfl (by decide)) (Ends.mono vc ?_)
      rintro _ h26 ⟨r27, rfl, hs_h26, vc⟩
      refine e_if (t := 159) (show pAt 149 151 = some (151, .ifCond .eq 8, 3, []) from by decide +kernel) rfl (fun c29 => ?_) (fun c29 => ?_)
      · replace vc := vc.1 c29
        refine e_aload_n (show pAt 149 159 = some (159, .aload_n 0, 1, []) from by decide +kernel) rfl (ra (by decide)) ?_
        refine e_iload_n (show pAt 149 160 = some (160, .iload_n 1, 1, []) from by decide +kernel) rfl ?_
        refine Ends.call (show pAt 149 161 = some (161, .invokevirtual 306, 3, [141, 2, 0, 0, 5225, 5227, 84]) from by decide +kernel) (isRet_none rfl) rfl (call_this (show HS h26 from hs_h26) rfl rfl (by decide)) (Ends.mono vc ?_)
        rintro _ h30 ⟨r31, rfl, hs_h30, vc⟩
        exact e_retI (show pAt 149 164 = some (164, .ireturn, 1, []) from by decide +kernel) rfl vc
      · replace vc := vc.2 c29
        refine e_bipush (c := (-5)) (show pAt 149 154 = some (154, .bipush (-5), 2, []) from by decide +kernel) (by decide) ?_
        refine e_goto (t := 164) (show pAt 149 156 = some (156, .goto 8, 3, []) from by decide +kernel) rfl ?_
        exact e_retI (show pAt 149 164 = some (164, .ireturn, 1, []) from by decide +kernel) rfl vc
    · refine e_tsc (t := 165) 9 (show pAt 149 11 = some (11, .tableswitch 173 0 9 #[53, 60, 67, 74, 81, 88, 97, 116, 135, 154], 53, []) from by decide +kernel) (by omega) (by omega) rfl rfl ?_
      replace vc := vc.2.2.2.2.2.2.2.2.2.2 c5
      refine e_aload_n (show pAt 149 165 = some (165, .aload_n 0, 1, []) from by decide +kernel) rfl (ra (by decide)) ?_
      refine e_iload_n (show pAt 149 166 = some (166, .iload_n 1, 1, []) from by decide +kernel) rfl ?_
      refine Ends.call (show pAt 149 167 = some (167, .invokevirtual 291, 3, [139, 2, 0, 0, 5169, 5171, 70]) from by decide +kernel) (isRet_none rfl) rfl (call_this (show HS h1 from hs_h1) rfl rfl (by decide)) (Ends.mono vc ?_)
      rintro _ h33 ⟨r34, rfl, hs_h33, vc⟩
      refine e_if (t := 181) (show pAt 149 170 = some (170, .ifCond .eq 11, 3, []) from by decide +kernel) rfl (fun c36 => ?_) (fun c36 => ?_)
      · replace vc := vc.1 c36
        refine e_bipush (c := (-5)) (show pAt 149 181 = some (181, .bipush (-5), 2, []) from by decide +kernel) (by decide) ?_
        exact e_retI (show pAt 149 183 = some (183, .ireturn, 1, []) from by decide +kernel) rfl vc
      · replace vc := vc.2 c36
        refine e_aload_n (show pAt 149 173 = some (173, .aload_n 0, 1, []) from by decide +kernel) rfl (ra (by decide)) ?_
        refine e_iload_n (show pAt 149 174 = some (174, .iload_n 1, 1, []) from by decide +kernel) rfl ?_
        refine Ends.call (show pAt 149 175 = some (175, .invokevirtual 309, 3, [148, 2, 0, 0, 5229, 5231, 85]) from by decide +kernel) (isRet_none rfl) rfl (call_this (show HS h33 from hs_h33) rfl rfl (by decide)) (Ends.mono vc ?_)
        rintro _ h37 ⟨r38, rfl, hs_h37, vc⟩
        refine e_goto (t := 183) (show pAt 149 178 = some (178, .goto 5, 3, []) from by decide +kernel) rfl ?_
        exact e_retI (show pAt 149 183 = some (183, .ireturn, 1, []) from by decide +kernel) rfl vc
  · replace vc := vc.2 c4
    refine e_iconst (c := (-1)) (show pAt 149 8 = some (8, .iconst (-1), 1, []) from by decide +kernel) (by decide) ?_
    exact e_retI (show pAt 149 9 = some (9, .ireturn, 1, []) from by decide +kernel) rfl vc

theorem w_mset {X : Scr} {dp : Nat} {h : Hp} {Q : Option Value → Hp → Prop} (p : Int32) (w : Int32) (n : Int32) (hs : HS h)
    (vc : Ends X dp 112 0 [.ref 93, .int p] [] h (fun rv h1 => ∃ r2, rv = some (.int r2) ∧ HS h1 ∧ ((condB .eq r2 0 = true → Q (some (.int (-1))) h1) ∧ (condB .eq r2 0 = false → Ends X dp 109 0 [.ref 93, .int w, .int 0, .int 1] [] h1 (fun rv h5 => ∃ r6, rv = some (.int r6) ∧ HS h5 ∧ ((condB .ne r6 0 = true → ((condB .ne w 0 = true → Ends X dp 109 0 [.ref 93, .int n, .int 0, .int 9] [] h5 (fun rv h10 => ∃ r11, rv = some (.int r11) ∧ HS h10 ∧ ((condB .ne r11 0 = true → ((condB .ne w 0 = true → (inB p 7 = true ∧ ((condB .ne w 0 = true → (inB p 7 = true ∧ Q (some (.int (h10.2.1 98 p.toNatClampNeg))) (hpI h10 98 p.toNatClampNeg n))) ∧ (condB .ne w 0 = false → (inB p 7 = true ∧ Q (some (.int (h10.2.1 98 p.toNatClampNeg))) (hpI h10 96 p.toNatClampNeg n)))))) ∧ (condB .ne w 0 = false → (inB p 7 = true ∧ ((condB .ne w 0 = true → (inB p 7 = true ∧ Q (some (.int (h10.2.1 96 p.toNatClampNeg))) (hpI h10 98 p.toNatClampNeg n))) ∧ (condB .ne w 0 = false → (inB p 7 = true ∧ Q (some (.int (h10.2.1 96 p.toNatClampNeg))) (hpI h10 96 p.toNatClampNeg n)))))))) ∧ (condB .ne r11 0 = false → Q (some (.int (-2))) h10)))) ∧ (condB .ne w 0 = false → Ends X dp 109 0 [.ref 93, .int n, .int 0, .int 6] [] h5 (fun rv h23 => ∃ r24, rv = some (.int r24) ∧ HS h23 ∧ ((condB .ne r24 0 = true → ((condB .ne w 0 = true → (inB p 7 = true ∧ ((condB .ne w 0 = true → (inB p 7 = true ∧ Q (some (.int (h23.2.1 98 p.toNatClampNeg))) (hpI h23 98 p.toNatClampNeg n))) ∧ (condB .ne w 0 = false → (inB p 7 = true ∧ Q (some (.int (h23.2.1 98 p.toNatClampNeg))) (hpI h23 96 p.toNatClampNeg n)))))) ∧ (condB .ne w 0 = false → (inB p 7 = true ∧ ((condB .ne w 0 = true → (inB p 7 = true ∧ Q (some (.int (h23.2.1 96 p.toNatClampNeg))) (hpI h23 98 p.toNatClampNeg n))) ∧ (condB .ne w 0 = false → (inB p 7 = true ∧ Q (some (.int (h23.2.1 96 p.toNatClampNeg))) (hpI h23 96 p.toNatClampNeg n)))))))) ∧ (condB .ne r24 0 = false → Q (some (.int (-2))) h23)))))) ∧ (condB .ne r6 0 = false → Q (some (.int (-1))) h5))))))) :
    Ends X (dp + 1) 115 0 [.ref 93, .int p, .int w, .int n, .retAddr 0] [] h Q := by
  have ra : ∀ {a : Nat}, a < 1000 → a ≤ OLDB := fun h => by have := OLDB_eq; omega
  refine e_aload_n (show pAt 115 0 = some (0, .aload_n 0, 1, []) from by decide +kernel) rfl (ra (by decide)) ?_
  refine e_iload_n (show pAt 115 1 = some (1, .iload_n 1, 1, []) from by decide +kernel) rfl ?_
  refine Ends.call (show pAt 115 2 = some (2, .invokevirtual 210, 3, [112, 2, 0, 0, 5089, 5091, 55]) from by decide +kernel) (isRet_none rfl) rfl (call_this (show HS h from hs) rfl rfl (by decide)) (Ends.mono vc ?_)
  rintro _ h1 ⟨r2, rfl, hs_h1, vc⟩
  refine e_if (t := 18) (show pAt 115 5 = some (5, .ifCond .eq 13, 3, []) from by decide +kernel) rfl (fun c4 => ?_) (fun c4 => ?_)
  · replace vc := vc.1 c4
    refine e_iconst (c := (-1)) (show pAt 115 18 = some (18, .iconst (-1), 1, []) from by decide +kernel) (by decide) ?_
    exact e_retI (show pAt 115 19 = some (19, .ireturn, 1, []) from by decide +kernel) rfl vc
  · replace vc := vc.2 c4
    refine e_aload_n (show pAt 115 8 = some (8, .aload_n 0, 1, []) from by decide +kernel) rfl (ra (by decide)) ?_
    refine e_iload_n (show pAt 115 9 = some (9, .iload_n 2, 1, []) from by decide +kernel) rfl ?_
    refine e_iconst (c := 0) (show pAt 115 10 = some (10, .iconst 0, 1, []) from by decide +kernel) (by decide) ?_
    refine e_iconst (c := 1) (show pAt 115 11 = some (11, .iconst 1, 1, []) from by decide +kernel) (by decide) ?_
    refine Ends.call (show pAt 115 12 = some (12, .invokevirtual 206, 3, [109, 4, 0, 0, 5081, 5083, 54]) from by decide +kernel) (isRet_none rfl) rfl (call_this (show HS h1 from hs_h1) rfl rfl (by decide)) (Ends.mono vc ?_)
    rintro _ h5 ⟨r6, rfl, hs_h5, vc⟩
    refine e_if (t := 20) (show pAt 115 15 = some (15, .ifCond .ne 5, 3, []) from by decide +kernel) rfl (fun c8 => ?_) (fun c8 => ?_)
    · replace vc := vc.1 c8
      refine e_aload_n (show pAt 115 20 = some (20, .aload_n 0, 1, []) from by decide +kernel) rfl (ra (by decide)) ?_
      refine e_iload_n (show pAt 115 21 = some (21, .iload_n 3, 1, []) from by decide +kernel) rfl ?_
      refine e_iconst (c := 0) (show pAt 115 22 = some (22, .iconst 0, 1, []) from by decide +kernel) (by decide) ?_
      refine e_iload_n (show pAt 115 23 = some (23, .iload_n 2, 1, []) from by decide +kernel) rfl ?_
      refine e_if (t := 32) (show pAt 115 24 = some (24, .ifCond .ne 8, 3, []) from by decide +kernel) rfl (fun c9 => ?_) (fun c9 => ?_)
      · replace vc := vc.1 c9
        refine e_bipush (c := 9) (show pAt 115 32 = some (32, .bipush 9, 2, []) from by decide +kernel) (by decide) ?_
        refine Ends.call (show pAt 115 34 = some (34, .invokevirtual 206, 3, [109, 4, 0, 0, 5081, 5083, 54]) from by decide +kernel) (isRet_none rfl) rfl (call_this (show HS h5 from hs_h5) rfl rfl (by decide)) (Ends.mono vc ?_)
        rintro _ h10 ⟨r11, rfl, hs_h10, vc⟩
        refine e_if (t := 43) (show pAt 115 37 = some (37, .ifCond .ne 6, 3, []) from by decide +kernel) rfl (fun c13 => ?_) (fun c13 => ?_)
        · replace vc := vc.1 c13
          refine e_iload_n (show pAt 115 43 = some (43, .iload_n 2, 1, []) from by decide +kernel) rfl ?_
          refine e_if (t := 56) (show pAt 115 44 = some (44, .ifCond .ne 12, 3, []) from by decide +kernel) rfl (fun c14 => ?_) (fun c14 => ?_)
          · replace vc := vc.1 c14
            refine e_aload_n (show pAt 115 56 = some (56, .aload_n 0, 1, []) from by decide +kernel) rfl (ra (by decide)) ?_
            refine e_gR (show pAt 115 57 = some (57, .getfield 32, 3, [7, 7, 0, 4130]) from by decide +kernel) (show HS h10 from hs_h10) rfl (by decide) (hs_ref (show HS h10 from hs_h10) rfl) ?_
            refine e_iload_n (show pAt 115 60 = some (60, .iload_n 1, 1, []) from by decide +kernel) rfl ?_
            obtain ⟨c15, vc⟩ := vc
            refine e_aldv (v := h10.2.1 98 p.toNatClampNeg) (show pAt 115 61 = some (61, .iaload, 1, []) from by decide +kernel) (show HS h10 from hs_h10) (by decide) c15 rfl ?_
            refine e_istore (show pAt 115 62 = some (62, .istore 4, 2, []) from by decide +kernel) ⟨Nat.le_of_ble_eq_true rfl, rfl⟩ rfl ?_
            refine e_iload_n (show pAt 115 64 = some (64, .iload_n 2, 1, []) from by decide +kernel) rfl ?_
            refine e_if (t := 78) (show pAt 115 65 = some (65, .ifCond .ne 13, 3, []) from by decide +kernel) rfl (fun c16 => ?_) (fun c16 => ?_)
            · replace vc := vc.1 c16
              refine e_aload_n (show pAt 115 78 = some (78, .aload_n 0, 1, []) from by decide +kernel) rfl (ra (by decide)) ?_
              refine e_gR (show pAt 115 79 = some (79, .getfield 32, 3, [7, 7, 0, 4130]) from by decide +kernel) (show HS h10 from hs_h10) rfl (by decide) (hs_ref (show HS h10 from hs_h10) rfl) ?_
              refine e_iload_n (show pAt 115 82 = some (82, .iload_n 1, 1, []) from by decide +kernel) rfl ?_
              refine e_iload_n (show pAt 115 83 = some (83, .iload_n 3, 1, []) from by decide +kernel) rfl ?_
              obtain ⟨c17, vc⟩ := vc
              refine e_ast (show pAt 115 84 = some (84, .iastore, 1, []) from by decide +kernel) (show HS h10 from hs_h10) (by decide) c17 ?_
              refine e_iload (show pAt 115 85 = some (85, .iload 4, 2, []) from by decide +kernel) rfl ?_
              exact e_retI (show pAt 115 87 = some (87, .ireturn, 1, []) from by decide +kernel) rfl vc
            · replace vc := vc.2 c16
              refine e_aload_n (show pAt 115 68 = some (68, .aload_n 0, 1, []) from by decide +kernel) rfl (ra (by decide)) ?_
              refine e_gR (show pAt 115 69 = some (69, .getfield 26, 3, [7, 5, 0, 4128]) from by decide +kernel) (show HS h10 from hs_h10) rfl (by decide) (hs_ref (show HS h10 from hs_h10) rfl) ?_
              refine e_iload_n (show pAt 115 72 = some (72, .iload_n 1, 1, []) from by decide +kernel) rfl ?_
              refine e_iload_n (show pAt 115 73 = some (73, .iload_n 3, 1, []) from by decide +kernel) rfl ?_
              obtain ⟨c18, vc⟩ := vc
              refine e_ast (show pAt 115 74 = some (74, .iastore, 1, []) from by decide +kernel) (show HS h10 from hs_h10) (by decide) c18 ?_
              refine e_goto (t := 85) (show pAt 115 75 = some (75, .goto 10, 3, []) from by decide +kernel) rfl ?_
              refine e_iload (show pAt 115 85 = some (85, .iload 4, 2, []) from by decide +kernel) rfl ?_
              exact e_retI (show pAt 115 87 = some (87, .ireturn, 1, []) from by decide +kernel) rfl vc
          · replace vc := vc.2 c14
            refine e_aload_n (show pAt 115 47 = some (47, .aload_n 0, 1, []) from by decide +kernel) rfl (ra (by decide)) ?_
            refine e_gR (show pAt 115 48 = some (48, .getfield 26, 3, [7, 5, 0, 4128]) from by decide +kernel) (show HS h10 from hs_h10) rfl (by decide) (hs_ref (show HS h10 from hs_h10) rfl) ?_
            refine e_iload_n (show pAt 115 51 = some (51, .iload_n 1, 1, []) from by decide +kernel) rfl ?_
            obtain ⟨c19, vc⟩ := vc
            refine e_aldv (v := h10.2.1 96 p.toNatClampNeg) (show pAt 115 52 = some (52, .iaload, 1, []) from by decide +kernel) (show HS h10 from hs_h10) (by decide) c19 rfl ?_
            refine e_goto (t := 62) (show pAt 115 53 = some (53, .goto 9, 3, []) from by decide +kernel) rfl ?_
            refine e_istore (show pAt 115 62 = some (62, .istore 4, 2, []) from by decide +kernel) ⟨Nat.le_of_ble_eq_true rfl, rfl⟩ rfl ?_
            refine e_iload_n (show pAt 115 64 = some (64, .iload_n 2, 1, []) from by decide +kernel) rfl ?_
            refine e_if (t := 78) (show pAt 115 65 = some (65, .ifCond .ne 13, 3, []) from by decide +kernel) rfl (fun c20 => ?_) (fun c20 => ?_)
            · replace vc := vc.1 c20
              refine e_aload_n (show pAt 115 78 = some (78, .aload_n 0, 1, []) from by decide +kernel) rfl (ra (by decide)) ?_
              refine e_gR (show pAt 115 79 = some (79, .getfield 32, 3, [7, 7, 0, 4130]) from by decide +kernel) (show HS h10 from hs_h10) rfl (by decide) (hs_ref (show HS h10 from hs_h10) rfl) ?_
              refine e_iload_n (show pAt 115 82 = some (82, .iload_n 1, 1, []) from by decide +kernel) rfl ?_
              refine e_iload_n (show pAt 115 83 = some (83, .iload_n 3, 1, []) from by decide +kernel) rfl ?_
              obtain ⟨c21, vc⟩ := vc
              refine e_ast (show pAt 115 84 = some (84, .iastore, 1, []) from by decide +kernel) (show HS h10 from hs_h10) (by decide) c21 ?_
              refine e_iload (show pAt 115 85 = some (85, .iload 4, 2, []) from by decide +kernel) rfl ?_
              exact e_retI (show pAt 115 87 = some (87, .ireturn, 1, []) from by decide +kernel) rfl vc
            · replace vc := vc.2 c20
              refine e_aload_n (show pAt 115 68 = some (68, .aload_n 0, 1, []) from by decide +kernel) rfl (ra (by decide)) ?_
              refine e_gR (show pAt 115 69 = some (69, .getfield 26, 3, [7, 5, 0, 4128]) from by decide +kernel) (show HS h10 from hs_h10) rfl (by decide) (hs_ref (show HS h10 from hs_h10) rfl) ?_
              refine e_iload_n (show pAt 115 72 = some (72, .iload_n 1, 1, []) from by decide +kernel) rfl ?_
              refine e_iload_n (show pAt 115 73 = some (73, .iload_n 3, 1, []) from by decide +kernel) rfl ?_
              obtain ⟨c22, vc⟩ := vc
              refine e_ast (show pAt 115 74 = some (74, .iastore, 1, []) from by decide +kernel) (show HS h10 from hs_h10) (by decide) c22 ?_
              refine e_goto (t := 85) (show pAt 115 75 = some (75, .goto 10, 3, []) from by decide +kernel) rfl ?_
              refine e_iload (show pAt 115 85 = some (85, .iload 4, 2, []) from by decide +kernel) rfl ?_
              exact e_retI (show pAt 115 87 = some (87, .ireturn, 1, []) from by decide +kernel) rfl vc
        · replace vc := vc.2 c13
          refine e_bipush (c := (-2)) (show pAt 115 40 = some (40, .bipush (-2), 2, []) from by decide +kernel) (by decide) ?_
          exact e_retI (show pAt 115 42 = some (42, .ireturn, 1, []) from by decide +kernel) rfl vc
      · replace vc := vc.2 c9
        refine e_bipush (c := 6) (show pAt 115 27 = some (27, .bipush 6, 2, []) from by decide +kernel) (by decide) ?_
        refine e_goto (t := 34) (show pAt 115 29 = some (29, .goto 5, 3, []) from by decide +kernel) rfl ?_
        refine Ends.call (show pAt 115 34 = some (34, .invokevirtual 206, 3, [109, 4, 0, 0, 5081, 5083, 54]) from by decide +kernel) (isRet_none rfl) rfl (call_this (show HS h5 from hs_h5) rfl rfl (by decide)) (Ends.mono vc ?_)
        rintro _ h23 ⟨r24, rfl, hs_h23, vc⟩
        refine e_if (t := 43) (show pAt 115 37 = some (37, .ifCond .ne 6, 3, []) from by decide +kernel) rfl (fun c26 => ?_) (fun c26 => ?_)
        · replace vc := vc.1 c26
          refine e_iload_n (show pAt 115 43 = some (43, .iload_n 2, 1, []) from by decide +kernel) rfl ?_
          refine e_if (t := 56) (show pAt 115 44 = some (44, .ifCond .ne 12, 3, []) from by decide +kernel) rfl (fun c27 => ?_) (fun c27 => ?_)
          · replace vc := vc.1 c27
            refine e_aload_n (show pAt 115 56 = some (56, .aload_n 0, 1, []) from by decide +kernel) rfl (ra (by decide)) ?_
            refine e_gR (show pAt 115 57 = some (57, .getfield 32, 3, [7, 7, 0, 4130]) from by decide +kernel) (show HS h23 from hs_h23) rfl (by decide) (hs_ref (show HS h23 from hs_h23) rfl) ?_
            refine e_iload_n (show pAt 115 60 = some (60, .iload_n 1, 1, []) from by decide +kernel) rfl ?_
            obtain ⟨c28, vc⟩ := vc
            refine e_aldv (v := h23.2.1 98 p.toNatClampNeg) (show pAt 115 61 = some (61, .iaload, 1, []) from by decide +kernel) (show HS h23 from hs_h23) (by decide) c28 rfl ?_
            refine e_istore (show pAt 115 62 = some (62, .istore 4, 2, []) from by decide +kernel) ⟨Nat.le_of_ble_eq_true rfl, rfl⟩ rfl ?_
            refine e_iload_n (show pAt 115 64 = some (64, .iload_n 2, 1, []) from by decide +kernel) rfl ?_
            refine e_if (t := 78) (show pAt 115 65 = some (65, .ifCond .ne 13, 3, []) from by decide +kernel) rfl (fun c29 => ?_) (fun c29 => ?_)
            · replace vc := vc.1 c29
              refine e_aload_n (show pAt 115 78 = some (78, .aload_n 0, 1, []) from by decide +kernel) rfl (ra (by decide)) ?_
              refine e_gR (show pAt 115 79 = some (79, .getfield 32, 3, [7, 7, 0, 4130]) from by decide +kernel) (show HS h23 from hs_h23) rfl (by decide) (hs_ref (show HS h23 from hs_h23) rfl) ?_
              refine e_iload_n (show pAt 115 82 = some (82, .iload_n 1, 1, []) from by decide +kernel) rfl ?_
              refine e_iload_n (show pAt 115 83 = some (83, .iload_n 3, 1, []) from by decide +kernel) rfl ?_
              obtain ⟨c30, vc⟩ := vc
              refine e_ast (show pAt 115 84 = some (84, .iastore, 1, []) from by decide +kernel) (show HS h23 from hs_h23) (by decide) c30 ?_
              refine e_iload (show pAt 115 85 = some (85, .iload 4, 2, []) from by decide +kernel) rfl ?_
              exact e_retI (show pAt 115 87 = some (87, .ireturn, 1, []) from by decide +kernel) rfl vc
            · replace vc := vc.2 c29
              refine e_aload_n (show pAt 115 68 = some (68, .aload_n 0, 1, []) from by decide +kernel) rfl (ra (by decide)) ?_
              refine e_gR (show pAt 115 69 = some (69, .getfield 26, 3, [7, 5, 0, 4128]) from by decide +kernel) (show HS h23 from hs_h23) rfl (by decide) (hs_ref (show HS h23 from hs_h23) rfl) ?_
              refine e_iload_n (show pAt 115 72 = some (72, .iload_n 1, 1, []) from by decide +kernel) rfl ?_
              refine e_iload_n (show pAt 115 73 = some (73, .iload_n 3, 1, []) from by decide +kernel) rfl ?_
              obtain ⟨c31, vc⟩ := vc
              refine e_ast (show pAt 115 74 = some (74, .iastore, 1, []) from by decide +kernel) (show HS h23 from hs_h23) (by decide) c31 ?_
              refine e_goto (t := 85) (show pAt 115 75 = some (75, .goto 10, 3, []) from by decide +kernel) rfl ?_
              refine e_iload (show pAt 115 85 = some (85, .iload 4, 2, []) from by decide +kernel) rfl ?_
              exact e_retI (show pAt 115 87 = some (87, .ireturn, 1, []) from by decide +kernel) rfl vc
          · replace vc := vc.2 c27
            refine e_aload_n (show pAt 115 47 = some (47, .aload_n 0, 1, []) from by decide +kernel) rfl (ra (by decide)) ?_
            refine e_gR (show pAt 115 48 = some (48, .getfield 26, 3, [7, 5, 0, 4128]) from by decide +kernel) (show HS h23 from hs_h23) rfl (by decide) (hs_ref (show HS h23 from hs_h23) rfl) ?_
            refine e_iload_n (show pAt 115 51 = some (51, .iload_n 1, 1, []) from by decide +kernel) rfl ?_
            obtain ⟨c32, vc⟩ := vc
            refine e_aldv (v := h23.2.1 96 p.toNatClampNeg) (show pAt 115 52 = some (52, .iaload, 1, []) from by decide +kernel) (show HS h23 from hs_h23) (by decide) c32 rfl ?_
            refine e_goto (t := 62) (show pAt 115 53 = some (53, .goto 9, 3, []) from by decide +kernel) rfl ?_
            refine e_istore (show pAt 115 62 = some (62, .istore 4, 2, []) from by decide +kernel) ⟨Nat.le_of_ble_eq_true rfl, rfl⟩ rfl ?_
            refine e_iload_n (show pAt 115 64 = some (64, .iload_n 2, 1, []) from by decide +kernel) rfl ?_
            refine e_if (t := 78) (show pAt 115 65 = some (65, .ifCond .ne 13, 3, []) from by decide +kernel) rfl (fun c33 => ?_) (fun c33 => ?_)
            · replace vc := vc.1 c33
              refine e_aload_n (show pAt 115 78 = some (78, .aload_n 0, 1, []) from by decide +kernel) rfl (ra (by decide)) ?_
              refine e_gR (show pAt 115 79 = some (79, .getfield 32, 3, [7, 7, 0, 4130]) from by decide +kernel) (show HS h23 from hs_h23) rfl (by decide) (hs_ref (show HS h23 from hs_h23) rfl) ?_
              refine e_iload_n (show pAt 115 82 = some (82, .iload_n 1, 1, []) from by decide +kernel) rfl ?_
              refine e_iload_n (show pAt 115 83 = some (83, .iload_n 3, 1, []) from by decide +kernel) rfl ?_
              obtain ⟨c34, vc⟩ := vc
              refine e_ast (show pAt 115 84 = some (84, .iastore, 1, []) from by decide +kernel) (show HS h23 from hs_h23) (by decide) c34 ?_
              refine e_iload (show pAt 115 85 = some (85, .iload 4, 2, []) from by decide +kernel) rfl ?_
              exact e_retI (show pAt 115 87 = some (87, .ireturn, 1, []) from by decide +kernel) rfl vc
            · replace vc := vc.2 c33
              refine e_aload_n (show pAt 115 68 = some (68, .aload_n 0, 1, []) from by decide +kernel) rfl (ra (by decide)) ?_
              refine e_gR (show pAt 115 69 = some (69, .getfield 26, 3, [7, 5, 0, 4128]) from by decide +kernel) (show HS h23 from hs_h23) rfl (by decide) (hs_ref (show HS h23 from hs_h23) rfl) ?_
              refine e_iload_n (show pAt 115 72 = some (72, .iload_n 1, 1, []) from by decide +kernel) rfl ?_
              refine e_iload_n (show pAt 115 73 = some (73, .iload_n 3, 1, []) from by decide +kernel) rfl ?_
              obtain ⟨c35, vc⟩ := vc
              refine e_ast (show pAt 115 74 = some (74, .iastore, 1, []) from by decide +kernel) (show HS h23 from hs_h23) (by decide) c35 ?_
              refine e_goto (t := 85) (show pAt 115 75 = some (75, .goto 10, 3, []) from by decide +kernel) rfl ?_
              refine e_iload (show pAt 115 85 = some (85, .iload 4, 2, []) from by decide +kernel) rfl ?_
              exact e_retI (show pAt 115 87 = some (87, .ireturn, 1, []) from by decide +kernel) rfl vc
        · replace vc := vc.2 c26
          refine e_bipush (c := (-2)) (show pAt 115 40 = some (40, .bipush (-2), 2, []) from by decide +kernel) (by decide) ?_
          exact e_retI (show pAt 115 42 = some (42, .ireturn, 1, []) from by decide +kernel) rfl vc
    · replace vc := vc.2 c8
      refine e_iconst (c := (-1)) (show pAt 115 18 = some (18, .iconst (-1), 1, []) from by decide +kernel) (by decide) ?_
      exact e_retI (show pAt 115 19 = some (19, .ireturn, 1, []) from by decide +kernel) rfl vc

theorem w_mcat {X : Scr} {dp : Nat} {h : Hp} {Q : Option Value → Hp → Prop} (p : Int32) (d : Int32) (hs : HS h)
    (vc : Ends X dp 112 0 [.ref 93, .int p] [] h (fun rv h1 => ∃ r2, rv = some (.int r2) ∧ HS h1 ∧ ((condB .ne r2 0 = true → ((condB .eq d 0 = true → Q (some (.int (((h1.2.1 93 2) >>> (p &&& 31)) &&& 1))) (hpI h1 93 2 ((h1.2.1 93 2) &&& ((1 <<< (p &&& 31)) ^^^ (-1))))) ∧ (condB .eq d 0 = false → Q (some (.int (((h1.2.1 93 2) >>> (p &&& 31)) &&& 1))) (hpI h1 93 2 ((h1.2.1 93 2) ||| (1 <<< (p &&& 31))))))) ∧ (condB .ne r2 0 = false → Q (some (.int (-1))) h1)))) :
    Ends X (dp + 1) 116 0 [.ref 93, .int p, .int d, .retAddr 0] [] h Q := by
  have ra : ∀ {a : Nat}, a < 1000 → a ≤ OLDB := fun h => by have := OLDB_eq; omega
  refine e_aload_n (show pAt 116 0 = some (0, .aload_n 0, 1, []) from by decide +kernel) rfl (ra (by decide)) ?_
  refine e_iload_n (show pAt 116 1 = some (1, .iload_n 1, 1, []) from by decide +kernel) rfl ?_
  refine Ends.call (show pAt 116 2 = some (2, .invokevirtual 210, 3, [112, 2, 0, 0, 5089, 5091, 55]) from by decide +kernel) (isRet_none rfl) rfl (call_this (show HS h from hs) rfl rfl (by decide)) (Ends.mono vc ?_)
  rintro _ h1 ⟨r2, rfl, hs_h1, vc⟩
  refine e_if (t := 10) (show pAt 116 5 = some (5, .ifCond .ne 5, 3, []) from by decide +kernel) rfl (fun c4 => ?_) (fun c4 => ?_)
  · replace vc := vc.1 c4
    refine e_aload_n (show pAt 116 10 = some (10, .aload_n 0, 1, []) from by decide +kernel) rfl (ra (by decide)) ?_
    refine e_gIv (v := h1.2.1 93 2) (show pAt 116 11 = some (11, .getfield 16, 3, [7, 2, 0, 4125]) from by decide +kernel) (show HS h1 from hs_h1) rfl (by decide) rfl ?_
    refine e_iload_n (show pAt 116 14 = some (14, .iload_n 1, 1, []) from by decide +kernel) rfl ?_
    refine e_ishr (show pAt 116 15 = some (15, .ishr, 1, []) from by decide +kernel) ?_
    refine e_iconst (c := 1) (show pAt 116 16 = some (16, .iconst 1, 1, []) from by decide +kernel) (by decide) ?_
    refine e_iand (show pAt 116 17 = some (17, .iand, 1, []) from by decide +kernel) ?_
    refine e_istore_n (show pAt 116 18 = some (18, .istore_n 3, 1, []) from by decide +kernel) ⟨Nat.le_of_ble_eq_true rfl, rfl⟩ rfl ?_
    refine e_aload_n (show pAt 116 19 = some (19, .aload_n 0, 1, []) from by decide +kernel) rfl (ra (by decide)) ?_
    refine e_iload_n (show pAt 116 20 = some (20, .iload_n 2, 1, []) from by decide +kernel) rfl ?_
    refine e_if (t := 35) (show pAt 116 21 = some (21, .ifCond .eq 14, 3, []) from by decide +kernel) rfl (fun c5 => ?_) (fun c5 => ?_)
    · replace vc := vc.1 c5
      refine e_aload_n (show pAt 116 35 = some (35, .aload_n 0, 1, []) from by decide +kernel) rfl (ra (by decide)) ?_
      refine e_gIv (v := h1.2.1 93 2) (show pAt 116 36 = some (36, .getfield 16, 3, [7, 2, 0, 4125]) from by decide +kernel) (show HS h1 from hs_h1) rfl (by decide) rfl ?_
      refine e_iconst (c := 1) (show pAt 116 39 = some (39, .iconst 1, 1, []) from by decide +kernel) (by decide) ?_
      refine e_iload_n (show pAt 116 40 = some (40, .iload_n 1, 1, []) from by decide +kernel) rfl ?_
      refine e_ishl (show pAt 116 41 = some (41, .ishl, 1, []) from by decide +kernel) ?_
      refine e_iconst (c := (-1)) (show pAt 116 42 = some (42, .iconst (-1), 1, []) from by decide +kernel) (by decide) ?_
      refine e_ixor (show pAt 116 43 = some (43, .ixor, 1, []) from by decide +kernel) ?_
      refine e_iand (show pAt 116 44 = some (44, .iand, 1, []) from by decide +kernel) ?_
      refine e_pI (show pAt 116 45 = some (45, .putfield 16, 3, [7, 2, 0, 4125]) from by decide +kernel) (show HS h1 from hs_h1) (by decide) (Or.inl rfl) ?_
      refine e_iload_n (show pAt 116 48 = some (48, .iload_n 3, 1, []) from by decide +kernel) rfl ?_
      exact e_retI (show pAt 116 49 = some (49, .ireturn, 1, []) from by decide +kernel) rfl vc
    · replace vc := vc.2 c5
      refine e_aload_n (show pAt 116 24 = some (24, .aload_n 0, 1, []) from by decide +kernel) rfl (ra (by decide)) ?_
      refine e_gIv (v := h1.2.1 93 2) (show pAt 116 25 = some (25, .getfield 16, 3, [7, 2, 0, 4125]) from by decide +kernel) (show HS h1 from hs_h1) rfl (by decide) rfl ?_
      refine e_iconst (c := 1) (show pAt 116 28 = some (28, .iconst 1, 1, []) from by decide +kernel) (by decide) ?_
      refine e_iload_n (show pAt 116 29 = some (29, .iload_n 1, 1, []) from by decide +kernel) rfl ?_
      refine e_ishl (show pAt 116 30 = some (30, .ishl, 1, []) from by decide +kernel) ?_
      refine e_ior (show pAt 116 31 = some (31, .ior, 1, []) from by decide +kernel) ?_
      refine e_goto (t := 45) (show pAt 116 32 = some (32, .goto 13, 3, []) from by decide +kernel) rfl ?_
      refine e_pI (show pAt 116 45 = some (45, .putfield 16, 3, [7, 2, 0, 4125]) from by decide +kernel) (show HS h1 from hs_h1) (by decide) (Or.inl rfl) ?_
      refine e_iload_n (show pAt 116 48 = some (48, .iload_n 3, 1, []) from by decide +kernel) rfl ?_
      exact e_retI (show pAt 116 49 = some (49, .ireturn, 1, []) from by decide +kernel) rfl vc
  · replace vc := vc.2 c4
    refine e_iconst (c := (-1)) (show pAt 116 8 = some (8, .iconst (-1), 1, []) from by decide +kernel) (by decide) ?_
    exact e_retI (show pAt 116 9 = some (9, .ireturn, 1, []) from by decide +kernel) rfl vc

theorem w_mtold {X : Scr} {dp : Nat} {h : Hp} {Q : Option Value → Hp → Prop} (w : Int32) (hs : HS h)
    (vc : ((condB .ne w 0 = true → ((condB .ne w 1 = true → ((condB .ne w 2 = true → Q (some (.int (-1))) h) ∧ (condB .ne w 2 = false → Q (some (.int (h.2.1 93 2))) h))) ∧ (condB .ne w 1 = false → Ends X dp 113 0 [.ref 93] [] h (fun rv h4 => ∃ r5, rv = some (.int r5) ∧ HS h4 ∧ Q (some (.int (r5 &&& ((h4.2.1 93 2) ^^^ (-1))))) h4)))) ∧ (condB .ne w 0 = false → Q (some (.int (h.2.1 93 1))) h))) :
    Ends X (dp + 1) 150 0 [.ref 93, .int w] [] h Q := by
  have ra : ∀ {a : Nat}, a < 1000 → a ≤ OLDB := fun h => by have := OLDB_eq; omega
  refine e_iload_n (show pAt 150 0 = some (0, .iload_n 1, 1, []) from by decide +kernel) rfl ?_
  refine e_if (t := 11) (show pAt 150 1 = some (1, .ifCond .ne 10, 3, []) from by decide +kernel) rfl (fun c1 => ?_) (fun c1 => ?_)
  · replace vc := vc.1 c1
    refine e_iload_n (show pAt 150 11 = some (11, .iload_n 1, 1, []) from by decide +kernel) rfl ?_
    refine e_iconst (c := 1) (show pAt 150 12 = some (12, .iconst 1, 1, []) from by decide +kernel) (by decide) ?_
    refine e_icmp (t := 30) (show pAt 150 13 = some (13, .if_icmp .ne 17, 3, []) from by decide +kernel) rfl (fun c2 => ?_) (fun c2 => ?_)
    · replace vc := vc.1 c2
      refine e_iload_n (show pAt 150 30 = some (30, .iload_n 1, 1, []) from by decide +kernel) rfl ?_
      refine e_iconst (c := 2) (show pAt 150 31 = some (31, .iconst 2, 1, []) from by decide +kernel) (by decide) ?_
      refine e_icmp (t := 42) (show pAt 150 32 = some (32, .if_icmp .ne 10, 3, []) from by decide +kernel) rfl (fun c3 => ?_) (fun c3 => ?_)
      · replace vc := vc.1 c3
        refine e_iconst (c := (-1)) (show pAt 150 42 = some (42, .iconst (-1), 1, []) from by decide +kernel) (by decide) ?_
        exact e_retI (show pAt 150 43 = some (43, .ireturn, 1, []) from by decide +kernel) rfl vc
      · replace vc := vc.2 c3
        refine e_aload_n (show pAt 150 35 = some (35, .aload_n 0, 1, []) from by decide +kernel) rfl (ra (by decide)) ?_
        refine e_gIv (v := h.2.1 93 2) (show pAt 150 36 = some (36, .getfield 16, 3, [7, 2, 0, 4125]) from by decide +kernel) (show HS h from hs) rfl (by decide) rfl ?_
        refine e_goto (t := 43) (show pAt 150 39 = some (39, .goto 4, 3, []) from by decide +kernel) rfl ?_
        exact e_retI (show pAt 150 43 = some (43, .ireturn, 1, []) from by decide +kernel) rfl vc
    · replace vc := vc.2 c2
      refine e_aload_n (show pAt 150 16 = some (16, .aload_n 0, 1, []) from by decide +kernel) rfl (ra (by decide)) ?_
      refine Ends.call (show pAt 150 17 = some (17, .invokevirtual 312, 3, [113, 1, 0, 0, 5237, 5239, 86]) from by decide +kernel) (isRet_none rfl) rfl (call_this (show HS h from hs) rfl rfl (by decide)) (Ends.mono vc ?_)
      rintro _ h4 ⟨r5, rfl, hs_h4, vc⟩
      refine e_aload_n (show pAt 150 20 = some (20, .aload_n 0, 1, []) from by decide +kernel) rfl (ra (by decide)) ?_
      refine e_gIv (v := h4.2.1 93 2) (show pAt 150 21 = some (21, .getfield 16, 3, [7, 2, 0, 4125]) from by decide +kernel) (show HS h4 from hs_h4) rfl (by decide) rfl ?_
      refine e_iconst (c := (-1)) (show pAt 150 24 = some (24, .iconst (-1), 1, []) from by decide +kernel) (by decide) ?_
      refine e_ixor (show pAt 150 25 = some (25, .ixor, 1, []) from by decide +kernel) ?_
      refine e_iand (show pAt 150 26 = some (26, .iand, 1, []) from by decide +kernel) ?_
      refine e_goto (t := 43) (show pAt 150 27 = some (27, .goto 16, 3, []) from by decide +kernel) rfl ?_
      exact e_retI (show pAt 150 43 = some (43, .ireturn, 1, []) from by decide +kernel) rfl vc
  · replace vc := vc.2 c1
    refine e_aload_n (show pAt 150 4 = some (4, .aload_n 0, 1, []) from by decide +kernel) rfl (ra (by decide)) ?_
    refine e_gIv (v := h.2.1 93 1) (show pAt 150 5 = some (5, .getfield 13, 3, [7, 1, 0, 4124]) from by decide +kernel) (show HS h from hs) rfl (by decide) rfl ?_
    refine e_goto (t := 43) (show pAt 150 8 = some (8, .goto 35, 3, []) from by decide +kernel) rfl ?_
    exact e_retI (show pAt 150 43 = some (43, .ireturn, 1, []) from by decide +kernel) rfl vc

theorem w_mon0 {X : Scr} {dp : Nat} {h : Hp} {Q : Option Value → Hp → Prop} (n : Int32) (w : Int32) (hs : HS h)
    (vc : Ends X dp 109 0 [.ref 93, .int w, .int 0, .int 1] [] h (fun rv h1 => ∃ r2, rv = some (.int r2) ∧ HS h1 ∧ ((condB .ne r2 0 = true → Ends X dp 109 0 [.ref 93, .int n, .int 0, .int 30] [] h1 (fun rv h5 => ∃ r6, rv = some (.int r6) ∧ HS h5 ∧ ((condB .ne r6 0 = true → Ends X dp 160 0 [.ref 93] [] h5 (fun rv h9 => rv = none ∧ HS h9 ∧ Ends X (dp + 1) 162 35 [.ref 93, .int n, .int w, .int 0, .int 0] [] h9 Q)) ∧ (condB .ne r6 0 = false → Q (some (.int (-2))) h5)))) ∧ (condB .ne r2 0 = false → Q (some (.int (-1))) h1)))) :
    Ends X (dp + 1) 162 0 [.ref 93, .int n, .int w, .retAddr 0, .retAddr 0] [] h Q := by
  have ra : ∀ {a : Nat}, a < 1000 → a ≤ OLDB := fun h => by have := OLDB_eq; omega
  refine e_aload_n (show pAt 162 0 = some (0, .aload_n 0, 1, []) from by decide +kernel) rfl (ra (by decide)) ?_
  refine e_iload_n (show pAt 162 1 = some (1, .iload_n 2, 1, []) from by decide +kernel) rfl ?_
  refine e_iconst (c := 0) (show pAt 162 2 = some (2, .iconst 0, 1, []) from by decide +kernel) (by decide) ?_
  refine e_iconst (c := 1) (show pAt 162 3 = some (3, .iconst 1, 1, []) from by decide +kernel) (by decide) ?_
  refine Ends.call (show pAt 162 4 = some (4, .invokevirtual 206, 3, [109, 4, 0, 0, 5081, 5083, 54]) from by decide +kernel) (isRet_none rfl) rfl (call_this (show HS h from hs) rfl rfl (by decide)) (Ends.mono vc ?_)
  rintro _ h1 ⟨r2, rfl, hs_h1, vc⟩
  refine e_if (t := 12) (show pAt 162 7 = some (7, .ifCond .ne 5, 3, []) from by decide +kernel) rfl (fun c4 => ?_) (fun c4 => ?_)
  · replace vc := vc.1 c4
    refine e_aload_n (show pAt 162 12 = some (12, .aload_n 0, 1, []) from by decide +kernel) rfl (ra (by decide)) ?_
    refine e_iload_n (show pAt 162 13 = some (13, .iload_n 1, 1, []) from by decide +kernel) rfl ?_
    refine e_iconst (c := 0) (show pAt 162 14 = some (14, .iconst 0, 1, []) from by decide +kernel) (by decide) ?_
    refine e_bipush (c := 30) (show pAt 162 15 = some (15, .bipush 30, 2, []) from by decide +kernel) (by decide) ?_
    refine Ends.call (show pAt 162 17 = some (17, .invokevirtual 206, 3, [109, 4, 0, 0, 5081, 5083, 54]) from by decide +kernel) (isRet_none rfl) rfl (call_this (show HS h1 from hs_h1) rfl rfl (by decide)) (Ends.mono vc ?_)
    rintro _ h5 ⟨r6, rfl, hs_h5, vc⟩
    refine e_if (t := 26) (show pAt 162 20 = some (20, .ifCond .ne 6, 3, []) from by decide +kernel) rfl (fun c8 => ?_) (fun c8 => ?_)
    · replace vc := vc.1 c8
      refine e_aload_n (show pAt 162 26 = some (26, .aload_n 0, 1, []) from by decide +kernel) rfl (ra (by decide)) ?_
      refine Ends.call (show pAt 162 27 = some (27, .invokevirtual 339, 3, [160, 1, 0, 0, 6041, 6043, 95]) from by decide +kernel) (isRet_none rfl) rfl (call_this (show HS h5 from hs_h5) rfl rfl (by decide)) (Ends.mono vc ?_)
      rintro _ h9 ⟨rfl, hs_h9, vc⟩
      refine e_iconst (c := 0) (show pAt 162 30 = some (30, .iconst 0, 1, []) from by decide +kernel) (by decide) ?_
      refine e_istore_n (show pAt 162 31 = some (31, .istore_n 3, 1, []) from by decide +kernel) ⟨Nat.le_of_ble_eq_true rfl, rfl⟩ rfl ?_
      refine e_iconst (c := 0) (show pAt 162 32 = some (32, .iconst 0, 1, []) from by decide +kernel) (by decide) ?_
      refine e_istore (show pAt 162 33 = some (33, .istore 4, 2, []) from by decide +kernel) ⟨Nat.le_of_ble_eq_true rfl, rfl⟩ rfl ?_
      exact vc
    · replace vc := vc.2 c8
      refine e_bipush (c := (-2)) (show pAt 162 23 = some (23, .bipush (-2), 2, []) from by decide +kernel) (by decide) ?_
      exact e_retI (show pAt 162 25 = some (25, .ireturn, 1, []) from by decide +kernel) rfl vc
  · replace vc := vc.2 c4
    refine e_iconst (c := (-1)) (show pAt 162 10 = some (10, .iconst (-1), 1, []) from by decide +kernel) (by decide) ?_
    exact e_retI (show pAt 162 11 = some (11, .ireturn, 1, []) from by decide +kernel) rfl vc

theorem w_mon1 {X : Scr} {dp : Nat} {h : Hp} {Q : Option Value → Hp → Prop} (n : Int32) (w : Int32) (m : Int32) (k : Int32) (hs : HS h)
    (vc : ((condB .ge k n = true → ((condB .ne w 0 = true → Ends X dp 161 0 [.ref 93] [] h (fun rv h3 => rv = none ∧ HS h3 ∧ Q (some (.int m)) h3)) ∧ (condB .ne w 0 = false → Ends X dp 113 0 [.ref 93] [] h (fun rv h6 => ∃ r7, rv = some (.int r7) ∧ HS h6 ∧ Ends X dp 161 0 [.ref 93] [] h6 (fun rv h9 => rv = none ∧ HS h9 ∧ Q (some (.int (r7 &&& ((h6.2.1 93 2) ^^^ (-1))))) h9))))) ∧ (condB .ge k n = false → Ends X dp 158 0 [.ref 93, .retAddr 0] [] h (fun rv h12 => ∃ r13, rv = some (.int r13) ∧ HS h12 ∧ Ends X dp 111 0 [.ref 93, .int r13, .retAddr 0, .retAddr 0] [] h12 (fun rv h15 => ∃ r16, rv = some (.int r16) ∧ HS h15 ∧ Ends X (dp + 1) 162 35 [.ref 93, .int n, .int w, .int (m + r16), .int (k + 1)] [] h15 Q))))) :
    Ends X (dp + 1) 162 35 [.ref 93, .int n, .int w, .int m, .int k] [] h Q := by
  have ra : ∀ {a : Nat}, a < 1000 → a ≤ OLDB := fun h => by have := OLDB_eq; omega
  refine e_iload (show pAt 162 35 = some (35, .iload 4, 2, []) from by decide +kernel) rfl ?_
  refine e_iload_n (show pAt 162 37 = some (37, .iload_n 1, 1, []) from by decide +kernel) rfl ?_
  refine e_icmp (t := 58) (show pAt 162 38 = some (38, .if_icmp .ge 20, 3, []) from by decide +kernel) rfl (fun c1 => ?_) (fun c1 => ?_)
  · replace vc := vc.1 c1
    refine e_iload_n (show pAt 162 58 = some (58, .iload_n 2, 1, []) from by decide +kernel) rfl ?_
    refine e_if (t := 76) (show pAt 162 59 = some (59, .ifCond .ne 17, 3, []) from by decide +kernel) rfl (fun c2 => ?_) (fun c2 => ?_)
    · replace vc := vc.1 c2
      refine e_iload_n (show pAt 162 76 = some (76, .iload_n 3, 1, []) from by decide +kernel) rfl ?_
      refine e_istore (show pAt 162 77 = some (77, .istore 4, 2, []) from by decide +kernel) ⟨Nat.le_of_ble_eq_true rfl, rfl⟩ rfl ?_
      refine e_aload_n (show pAt 162 79 = some (79, .aload_n 0, 1, []) from by decide +kernel) rfl (ra (by decide)) ?_
      refine Ends.call (show pAt 162 80 = some (80, .invokevirtual 345, 3, [161, 1, 0, 0, 6049, 6051, 97]) from by decide +kernel) (isRet_none rfl) rfl (call_this (show HS h from hs) rfl rfl (by decide)) (Ends.mono vc ?_)
      rintro _ h3 ⟨rfl, hs_h3, vc⟩
      refine e_iload (show pAt 162 83 = some (83, .iload 4, 2, []) from by decide +kernel) rfl ?_
      exact e_retI (show pAt 162 85 = some (85, .ireturn, 1, []) from by decide +kernel) rfl vc
    · replace vc := vc.2 c2
      refine e_aload_n (show pAt 162 62 = some (62, .aload_n 0, 1, []) from by decide +kernel) rfl (ra (by decide)) ?_
      refine Ends.call (show pAt 162 63 = some (63, .invokevirtual 312, 3, [113, 1, 0, 0, 5237, 5239, 86]) from by decide +kernel) (isRet_none rfl) rfl (call_this (show HS h from hs) rfl rfl (by decide)) (Ends.mono vc ?_)
      rintro _ h6 ⟨r7, rfl, hs_h6, vc⟩
      refine e_aload_n (show pAt 162 66 = some (66, .aload_n 0, 1, []) from by decide +kernel) rfl (ra (by decide)) ?_
      refine e_gIv (v := h6.2.1 93 2) (show pAt 162 67 = some (67, .getfield 16, 3, [7, 2, 0, 4125]) from by decide +kernel) (show HS h6 from hs_h6) rfl (by decide) rfl ?_
      refine e_iconst (c := (-1)) (show pAt 162 70 = some (70, .iconst (-1), 1, []) from by decide +kernel) (by decide) ?_
      refine e_ixor (show pAt 162 71 = some (71, .ixor, 1, []) from by decide +kernel) ?_
      refine e_iand (show pAt 162 72 = some (72, .iand, 1, []) from by decide +kernel) ?_
      refine e_goto (t := 77) (show pAt 162 73 = some (73, .goto 4, 3, []) from by decide +kernel) rfl ?_
      refine e_istore (show pAt 162 77 = some (77, .istore 4, 2, []) from by decide +kernel) ⟨Nat.le_of_ble_eq_true rfl, rfl⟩ rfl ?_
      refine e_aload_n (show pAt 162 79 = some (79, .aload_n 0, 1, []) from by decide +kernel) rfl (ra (by decide)) ?_
      refine Ends.call (show pAt 162 80 = some (80, .invokevirtual 345, 3, [161, 1, 0, 0, 6049, 6051, 97]) from by decide +kernel) (isRet_none rfl) rfl (call_this (show HS h6 from hs_h6) rfl rfl (by decide)) (Ends.mono vc ?_)
      rintro _ h9 ⟨rfl, hs_h9, vc⟩
      refine e_iload (show pAt 162 83 = some (83, .iload 4, 2, []) from by decide +kernel) rfl ?_
      exact e_retI (show pAt 162 85 = some (85, .ireturn, 1, []) from by decide +kernel) rfl vc
  · replace vc := vc.2 c1
    refine e_iload_n (show pAt 162 41 = some (41, .iload_n 3, 1, []) from by decide +kernel) rfl ?_
    refine e_aload_n (show pAt 162 42 = some (42, .aload_n 0, 1, []) from by decide +kernel) rfl (ra (by decide)) ?_
    refine e_aload_n (show pAt 162 43 = some (43, .aload_n 0, 1, []) from by decide +kernel) rfl (ra (by decide)) ?_
    refine Ends.call (show pAt 162 44 = some (44, .invokevirtual 336, 3, [158, 1, 0, 0, 6005, 6007, 87]) from by decide +kernel) (isRet_none rfl) rfl (call_this (show HS h from hs) rfl rfl (by decide)) (Ends.mono vc ?_)
    rintro _ h12 ⟨r13, rfl, hs_h12, vc⟩
    refine Ends.call (show pAt 162 47 = some (47, .invokevirtual 342, 3, [111, 2, 0, 0, 6045, 6047, 96]) from by decide +kernel) (isRet_none rfl) rfl (call_this (show HS h12 from hs_h12) rfl rfl (by decide)) (Ends.mono vc ?_)
    rintro _ h15 ⟨r16, rfl, hs_h15, vc⟩
    refine e_iadd (show pAt 162 50 = some (50, .iadd, 1, []) from by decide +kernel) ?_
    refine e_istore_n (show pAt 162 51 = some (51, .istore_n 3, 1, []) from by decide +kernel) ⟨Nat.le_of_ble_eq_true rfl, rfl⟩ rfl ?_
    refine e_iinc (c := 1) (show pAt 162 52 = some (52, .iinc 4 1, 3, []) from by decide +kernel) rfl rfl (by decide) rfl ?_
    refine e_goto (t := 35) (show pAt 162 55 = some (55, .goto (-20), 3, []) from by decide +kernel) rfl ?_
    exact vc

theorem w_mlas0 {X : Scr} {dp : Nat} {h : Hp} {Q : Option Value → Hp → Prop} (w : Int32) (hs : HS h)
    (vc : Ends X dp 109 0 [.ref 93, .int w, .int 0, .int 1] [] h (fun rv h1 => ∃ r2, rv = some (.int r2) ∧ HS h1 ∧ ((condB .ne r2 0 = true → Ends X dp 160 0 [.ref 93] [] h1 (fun rv h5 => rv = none ∧ HS h5 ∧ Ends X (dp + 1) 164 18 [.ref 93, .int w, .int 0, .retAddr 0] [] h5 Q)) ∧ (condB .ne r2 0 = false → Q (some (.int (-1))) h1)))) :
    Ends X (dp + 1) 164 0 [.ref 93, .int w, .retAddr 0, .retAddr 0] [] h Q := by
  have ra : ∀ {a : Nat}, a < 1000 → a ≤ OLDB := fun h => by have := OLDB_eq; omega
  refine e_aload_n (show pAt 164 0 = some (0, .aload_n 0, 1, []) from by decide +kernel) rfl (ra (by decide)) ?_
  refine e_iload_n (show pAt 164 1 = some (1, .iload_n 1, 1, []) from by decide +kernel) rfl ?_
  refine e_iconst (c := 0) (show pAt 164 2 = some (2, .iconst 0, 1, []) from by decide +kernel) (by decide) ?_
  refine e_iconst (c := 1) (show pAt 164 3 = some (3, .iconst 1, 1, []) from by decide +kernel) (by decide) ?_
  refine Ends.call (show pAt 164 4 = some (4, .invokevirtual 206, 3, [109, 4, 0, 0, 5081, 5083, 54]) from by decide +kernel) (isRet_none rfl) rfl (call_this (show HS h from hs) rfl rfl (by decide)) (Ends.mono vc ?_)
  rintro _ h1 ⟨r2, rfl, hs_h1, vc⟩
  refine e_if (t := 12) (show pAt 164 7 = some (7, .ifCond .ne 5, 3, []) from by decide +kernel) rfl (fun c4 => ?_) (fun c4 => ?_)
  · replace vc := vc.1 c4
    refine e_aload_n (show pAt 164 12 = some (12, .aload_n 0, 1, []) from by decide +kernel) rfl (ra (by decide)) ?_
    refine Ends.call (show pAt 164 13 = some (13, .invokevirtual 339, 3, [160, 1, 0, 0, 6041, 6043, 95]) from by decide +kernel) (isRet_none rfl) rfl (call_this (show HS h1 from hs_h1) rfl rfl (by decide)) (Ends.mono vc ?_)
    rintro _ h5 ⟨rfl, hs_h5, vc⟩
    refine e_iconst (c := 0) (show pAt 164 16 = some (16, .iconst 0, 1, []) from by decide +kernel) (by decide) ?_
    refine e_istore_n (show pAt 164 17 = some (17, .istore_n 2, 1, []) from by decide +kernel) ⟨Nat.le_of_ble_eq_true rfl, rfl⟩ rfl ?_
    exact vc
  · replace vc := vc.2 c4
    refine e_iconst (c := (-1)) (show pAt 164 10 = some (10, .iconst (-1), 1, []) from by decide +kernel) (by decide) ?_
    exact e_retI (show pAt 164 11 = some (11, .ireturn, 1, []) from by decide +kernel) rfl vc

theorem w_mlas1 {X : Scr} {dp : Nat} {h : Hp} {Q : Option Value → Hp → Prop} (w : Int32) (n : Int32) (x : Value) (hs : HS h)
    (vc : ((condB .ge n 31 = true → Ends X dp 113 0 [.ref 93] [] h (fun rv h2 => ∃ r3, rv = some (.int r3) ∧ HS h2 ∧ Ends X dp 161 0 [.ref 93] [] h2 (fun rv h5 => rv = none ∧ HS h5 ∧ ((condB .le n 30 = true → ((condB .ne w 0 = true → Q (some (.int n)) h5) ∧ (condB .ne w 0 = false → Ends X dp 163 0 [.ref 93, .int (r3 &&& ((h2.2.1 93 2) ^^^ (-1))), .retAddr 0] [] h5 (fun rv h10 => ∃ r11, rv = some (.int r11) ∧ HS h10 ∧ Q (some (.int r11)) h10)))) ∧ (condB .le n 30 = false → Q (some (.int (-5))) h5))))) ∧ (condB .ge n 31 = false → Ends X dp 113 0 [.ref 93] [] h (fun rv h13 => ∃ r14, rv = some (.int r14) ∧ HS h13 ∧ Ends X dp 111 0 [.ref 93, .int (r14 &&& ((h13.2.1 93 2) ^^^ (-1))), .retAddr 0, .retAddr 0] [] h13 (fun rv h16 => ∃ r17, rv = some (.int r17) ∧ HS h16 ∧ ((condB .le r17 1 = true → Ends X dp 113 0 [.ref 93] [] h16 (fun rv h20 => ∃ r21, rv = some (.int r21) ∧ HS h20 ∧ Ends X dp 161 0 [.ref 93] [] h20 (fun rv h23 => rv = none ∧ HS h23 ∧ ((condB .le n 30 = true → ((condB .ne w 0 = true → Q (some (.int n)) h23) ∧ (condB .ne w 0 = false → Ends X dp 163 0 [.ref 93, .int (r21 &&& ((h20.2.1 93 2) ^^^ (-1))), .retAddr 0] [] h23 (fun rv h28 => ∃ r29, rv = some (.int r29) ∧ HS h28 ∧ Q (some (.int r29)) h28)))) ∧ (condB .le n 30 = false → Q (some (.int (-5))) h23))))) ∧ (condB .le r17 1 = false → Ends X dp 158 0 [.ref 93, .retAddr 0] [] h16 (fun rv h31 => ∃ r32, rv = some (.int r32) ∧ HS h31 ∧ Ends X (dp + 1) 164 18 [.ref 93, .int w, .int (n + 1), .int r32] [] h31 Q)))))))) :
    Ends X (dp + 1) 164 18 [.ref 93, .int w, .int n, x] [] h Q := by
  have ra : ∀ {a : Nat}, a < 1000 → a ≤ OLDB := fun h => by have := OLDB_eq; omega
  refine e_iload_n (show pAt 164 18 = some (18, .iload_n 2, 1, []) from by decide +kernel) rfl ?_
  refine e_bipush (c := 31) (show pAt 164 19 = some (19, .bipush 31, 2, []) from by decide +kernel) (by decide) ?_
  refine e_icmp (t := 54) (show pAt 164 21 = some (21, .if_icmp .ge 33, 3, []) from by decide +kernel) rfl (fun c1 => ?_) (fun c1 => ?_)
  · replace vc := vc.1 c1
    refine e_aload_n (show pAt 164 54 = some (54, .aload_n 0, 1, []) from by decide +kernel) rfl (ra (by decide)) ?_
    refine Ends.call (show pAt 164 55 = some (55, .invokevirtual 312, 3, [113, 1, 0, 0, 5237, 5239, 86]) from by decide +kernel) (isRet_none rfl) rfl (call_this (show HS h from hs) rfl rfl (by decide)) (Ends.mono vc ?_)
    rintro _ h2 ⟨r3, rfl, hs_h2, vc⟩
    refine e_aload_n (show pAt 164 58 = some (58, .aload_n 0, 1, []) from by decide +kernel) rfl (ra (by decide)) ?_
    refine e_gIv (v := h2.2.1 93 2) (show pAt 164 59 = some (59, .getfield 16, 3, [7, 2, 0, 4125]) from by decide +kernel) (show HS h2 from hs_h2) rfl (by decide) rfl ?_
    refine e_iconst (c := (-1)) (show pAt 164 62 = some (62, .iconst (-1), 1, []) from by decide +kernel) (by decide) ?_
    refine e_ixor (show pAt 164 63 = some (63, .ixor, 1, []) from by decide +kernel) ?_
    refine e_iand (show pAt 164 64 = some (64, .iand, 1, []) from by decide +kernel) ?_
    refine e_istore_n (show pAt 164 65 = some (65, .istore_n 3, 1, []) from by decide +kernel) ⟨Nat.le_of_ble_eq_true rfl, rfl⟩ rfl ?_
    refine e_aload_n (show pAt 164 66 = some (66, .aload_n 0, 1, []) from by decide +kernel) rfl (ra (by decide)) ?_
    refine Ends.call (show pAt 164 67 = some (67, .invokevirtual 345, 3, [161, 1, 0, 0, 6049, 6051, 97]) from by decide +kernel) (isRet_none rfl) rfl (call_this (show HS h2 from hs_h2) rfl rfl (by decide)) (Ends.mono vc ?_)
    rintro _ h5 ⟨rfl, hs_h5, vc⟩
    refine e_iload_n (show pAt 164 70 = some (70, .iload_n 2, 1, []) from by decide +kernel) rfl ?_
    refine e_bipush (c := 30) (show pAt 164 71 = some (71, .bipush 30, 2, []) from by decide +kernel) (by decide) ?_
    refine e_icmp (t := 79) (show pAt 164 73 = some (73, .if_icmp .le 6, 3, []) from by decide +kernel) rfl (fun c8 => ?_) (fun c8 => ?_)
    · replace vc := vc.1 c8
      refine e_iload_n (show pAt 164 79 = some (79, .iload_n 1, 1, []) from by decide +kernel) rfl ?_
      refine e_if (t := 91) (show pAt 164 80 = some (80, .ifCond .ne 11, 3, []) from by decide +kernel) rfl (fun c9 => ?_) (fun c9 => ?_)
      · replace vc := vc.1 c9
        refine e_iload_n (show pAt 164 91 = some (91, .iload_n 2, 1, []) from by decide +kernel) rfl ?_
        exact e_retI (show pAt 164 92 = some (92, .ireturn, 1, []) from by decide +kernel) rfl vc
      · replace vc := vc.2 c9
        refine e_aload_n (show pAt 164 83 = some (83, .aload_n 0, 1, []) from by decide +kernel) rfl (ra (by decide)) ?_
        refine e_iload_n (show pAt 164 84 = some (84, .iload_n 3, 1, []) from by decide +kernel) rfl ?_
        refine Ends.call (show pAt 164 85 = some (85, .invokevirtual 348, 3, [163, 2, 0, 0, 6057, 6059, 98]) from by decide +kernel) (isRet_none rfl) rfl (call_this (show HS h5 from hs_h5) rfl rfl (by decide)) (Ends.mono vc ?_)
        rintro _ h10 ⟨r11, rfl, hs_h10, vc⟩
        refine e_goto (t := 92) (show pAt 164 88 = some (88, .goto 4, 3, []) from by decide +kernel) rfl ?_
        exact e_retI (show pAt 164 92 = some (92, .ireturn, 1, []) from by decide +kernel) rfl vc
    · replace vc := vc.2 c8
      refine e_bipush (c := (-5)) (show pAt 164 76 = some (76, .bipush (-5), 2, []) from by decide +kernel) (by decide) ?_
      exact e_retI (show pAt 164 78 = some (78, .ireturn, 1, []) from by decide +kernel) rfl vc
  · replace vc := vc.2 c1
    refine e_aload_n (show pAt 164 24 = some (24, .aload_n 0, 1, []) from by decide +kernel) rfl (ra (by decide)) ?_
    refine e_aload_n (show pAt 164 25 = some (25, .aload_n 0, 1, []) from by decide +kernel) rfl (ra (by decide)) ?_
    refine Ends.call (show pAt 164 26 = some (26, .invokevirtual 312, 3, [113, 1, 0, 0, 5237, 5239, 86]) from by decide +kernel) (isRet_none rfl) rfl (call_this (show HS h from hs) rfl rfl (by decide)) (Ends.mono vc ?_)
    rintro _ h13 ⟨r14, rfl, hs_h13, vc⟩
    refine e_aload_n (show pAt 164 29 = some (29, .aload_n 0, 1, []) from by decide +kernel) rfl (ra (by decide)) ?_
    refine e_gIv (v := h13.2.1 93 2) (show pAt 164 30 = some (30, .getfield 16, 3, [7, 2, 0, 4125]) from by decide +kernel) (show HS h13 from hs_h13) rfl (by decide) rfl ?_
    refine e_iconst (c := (-1)) (show pAt 164 33 = some (33, .iconst (-1), 1, []) from by decide +kernel) (by decide) ?_
    refine e_ixor (show pAt 164 34 = some (34, .ixor, 1, []) from by decide +kernel) ?_
    refine e_iand (show pAt 164 35 = some (35, .iand, 1, []) from by decide +kernel) ?_
    refine Ends.call (show pAt 164 36 = some (36, .invokevirtual 342, 3, [111, 2, 0, 0, 6045, 6047, 96]) from by decide +kernel) (isRet_none rfl) rfl (call_this (show HS h13 from hs_h13) rfl rfl (by decide)) (Ends.mono vc ?_)
    rintro _ h16 ⟨r17, rfl, hs_h16, vc⟩
    refine e_iconst (c := 1) (show pAt 164 39 = some (39, .iconst 1, 1, []) from by decide +kernel) (by decide) ?_
    refine e_icmp (t := 54) (show pAt 164 40 = some (40, .if_icmp .le 14, 3, []) from by decide +kernel) rfl (fun c19 => ?_) (fun c19 => ?_)
    · replace vc := vc.1 c19
      refine e_aload_n (show pAt 164 54 = some (54, .aload_n 0, 1, []) from by decide +kernel) rfl (ra (by decide)) ?_
      refine Ends.call (show pAt 164 55 = some (55, .invokevirtual 312, 3, [113, 1, 0, 0, 5237, 5239, 86]) from by decide +kernel) (isRet_none rfl) rfl (call_this (show HS h16 from hs_h16) rfl rfl (by decide)) (Ends.mono vc ?_)
      rintro _ h20 ⟨r21, rfl, hs_h20, vc⟩
      refine e_aload_n (show pAt 164 58 = some (58, .aload_n 0, 1, []) from by decide +kernel) rfl (ra (by decide)) ?_
      refine e_gIv (v := h20.2.1 93 2) (show pAt 164 59 = some (59, .getfield 16, 3, [7, 2, 0, 4125]) from by decide +kernel) (show HS h20 from hs_h20) rfl (by decide) rfl ?_
      refine e_iconst (c := (-1)) (show pAt 164 62 = some (62, .iconst (-1), 1, []) from by decide +kernel) (by decide) ?_
      refine e_ixor (show pAt 164 63 = some (63, .ixor, 1, []) from by decide +kernel) ?_
      refine e_iand (show pAt 164 64 = some (64, .iand, 1, []) from by decide +kernel) ?_
      refine e_istore_n (show pAt 164 65 = some (65, .istore_n 3, 1, []) from by decide +kernel) ⟨Nat.le_of_ble_eq_true rfl, rfl⟩ rfl ?_
      refine e_aload_n (show pAt 164 66 = some (66, .aload_n 0, 1, []) from by decide +kernel) rfl (ra (by decide)) ?_
      refine Ends.call (show pAt 164 67 = some (67, .invokevirtual 345, 3, [161, 1, 0, 0, 6049, 6051, 97]) from by decide +kernel) (isRet_none rfl) rfl (call_this (show HS h20 from hs_h20) rfl rfl (by decide)) (Ends.mono vc ?_)
      rintro _ h23 ⟨rfl, hs_h23, vc⟩
      refine e_iload_n (show pAt 164 70 = some (70, .iload_n 2, 1, []) from by decide +kernel) rfl ?_
      refine e_bipush (c := 30) (show pAt 164 71 = some (71, .bipush 30, 2, []) from by decide +kernel) (by decide) ?_
      refine e_icmp (t := 79) (show pAt 164 73 = some (73, .if_icmp .le 6, 3, []) from by decide +kernel) rfl (fun c26 => ?_) (fun c26 => ?_)
      · replace vc := vc.1 c26
        refine e_iload_n (show pAt 164 79 = some (79, .iload_n 1, 1, []) from by decide +kernel) rfl ?_
        refine e_if (t := 91) (show pAt 164 80 = some (80, .ifCond .ne 11, 3, []) from by decide +kernel) rfl (fun c27 => ?_) (fun c27 => ?_)
        · replace vc := vc.1 c27
          refine e_iload_n (show pAt 164 91 = some (91, .iload_n 2, 1, []) from by decide +kernel) rfl ?_
          exact e_retI (show pAt 164 92 = some (92, .ireturn, 1, []) from by decide +kernel) rfl vc
        · replace vc := vc.2 c27
          refine e_aload_n (show pAt 164 83 = some (83, .aload_n 0, 1, []) from by decide +kernel) rfl (ra (by decide)) ?_
          refine e_iload_n (show pAt 164 84 = some (84, .iload_n 3, 1, []) from by decide +kernel) rfl ?_
          refine Ends.call (show pAt 164 85 = some (85, .invokevirtual 348, 3, [163, 2, 0, 0, 6057, 6059, 98]) from by decide +kernel) (isRet_none rfl) rfl (call_this (show HS h23 from hs_h23) rfl rfl (by decide)) (Ends.mono vc ?_)
          rintro _ h28 ⟨r29, rfl, hs_h28, vc⟩
          refine e_goto (t := 92) (show pAt 164 88 = some (88, .goto 4, 3, []) from by decide +kernel) rfl ?_
          exact e_retI (show pAt 164 92 = some (92, .ireturn, 1, []) from by decide +kernel) rfl vc
      · replace vc := vc.2 c26
        refine e_bipush (c := (-5)) (show pAt 164 76 = some (76, .bipush (-5), 2, []) from by decide +kernel) (by decide) ?_
        exact e_retI (show pAt 164 78 = some (78, .ireturn, 1, []) from by decide +kernel) rfl vc
    · replace vc := vc.2 c19
      refine e_aload_n (show pAt 164 43 = some (43, .aload_n 0, 1, []) from by decide +kernel) rfl (ra (by decide)) ?_
      refine Ends.call (show pAt 164 44 = some (44, .invokevirtual 336, 3, [158, 1, 0, 0, 6005, 6007, 87]) from by decide +kernel) (isRet_none rfl) rfl (call_this (show HS h16 from hs_h16) rfl rfl (by decide)) (Ends.mono vc ?_)
      rintro _ h31 ⟨r32, rfl, hs_h31, vc⟩
      refine e_istore_n (show pAt 164 47 = some (47, .istore_n 3, 1, []) from by decide +kernel) ⟨Nat.le_of_ble_eq_true rfl, rfl⟩ rfl ?_
      refine e_iinc (c := 1) (show pAt 164 48 = some (48, .iinc 2 1, 3, []) from by decide +kernel) rfl rfl (by decide) rfl ?_
      refine e_goto (t := 18) (show pAt 164 51 = some (51, .goto (-33), 3, []) from by decide +kernel) rfl ?_
      exact vc

theorem w_mfir0 {X : Scr} {dp : Nat} {h : Hp} {Q : Option Value → Hp → Prop} (w : Int32) (hs : HS h)
    (vc : Ends X dp 109 0 [.ref 93, .int w, .int 0, .int 1] [] h (fun rv h1 => ∃ r2, rv = some (.int r2) ∧ HS h1 ∧ ((condB .ne r2 0 = true → Ends X (dp + 1) 165 21 [.ref 93, .int w, .int (-5), .int (-5), .int 0, .retAddr 0] [] h1 Q) ∧ (condB .ne r2 0 = false → Q (some (.int (-1))) h1)))) :
    Ends X (dp + 1) 165 0 [.ref 93, .int w, .retAddr 0, .retAddr 0, .retAddr 0, .retAddr 0] [] h Q := by
  have ra : ∀ {a : Nat}, a < 1000 → a ≤ OLDB := fun h => by have := OLDB_eq; omega
  refine e_aload_n (show pAt 165 0 = some (0, .aload_n 0, 1, []) from by decide +kernel) rfl (ra (by decide)) ?_
  refine e_iload_n (show pAt 165 1 = some (1, .iload_n 1, 1, []) from by decide +kernel) rfl ?_
  refine e_iconst (c := 0) (show pAt 165 2 = some (2, .iconst 0, 1, []) from by decide +kernel) (by decide) ?_
  refine e_iconst (c := 1) (show pAt 165 3 = some (3, .iconst 1, 1, []) from by decide +kernel) (by decide) ?_
  refine Ends.call (show pAt 165 4 = some (4, .invokevirtual 206, 3, [109, 4, 0, 0, 5081, 5083, 54]) from by decide +kernel) (isRet_none rfl) rfl (call_this (show HS h from hs) rfl rfl (by decide)) (Ends.mono vc ?_)
  rintro _ h1 ⟨r2, rfl, hs_h1, vc⟩
  refine e_if (t := 12) (show pAt 165 7 = some (7, .ifCond .ne 5, 3, []) from by decide +kernel) rfl (fun c4 => ?_) (fun c4 => ?_)
  · replace vc := vc.1 c4
    refine e_bipush (c := (-5)) (show pAt 165 12 = some (12, .bipush (-5), 2, []) from by decide +kernel) (by decide) ?_
    refine e_istore_n (show pAt 165 14 = some (14, .istore_n 2, 1, []) from by decide +kernel) ⟨Nat.le_of_ble_eq_true rfl, rfl⟩ rfl ?_
    refine e_bipush (c := (-5)) (show pAt 165 15 = some (15, .bipush (-5), 2, []) from by decide +kernel) (by decide) ?_
    refine e_istore_n (show pAt 165 17 = some (17, .istore_n 3, 1, []) from by decide +kernel) ⟨Nat.le_of_ble_eq_true rfl, rfl⟩ rfl ?_
    refine e_iconst (c := 0) (show pAt 165 18 = some (18, .iconst 0, 1, []) from by decide +kernel) (by decide) ?_
    refine e_istore (show pAt 165 19 = some (19, .istore 4, 2, []) from by decide +kernel) ⟨Nat.le_of_ble_eq_true rfl, rfl⟩ rfl ?_
    exact vc
  · replace vc := vc.2 c4
    refine e_iconst (c := (-1)) (show pAt 165 10 = some (10, .iconst (-1), 1, []) from by decide +kernel) (by decide) ?_
    exact e_retI (show pAt 165 11 = some (11, .ireturn, 1, []) from by decide +kernel) rfl vc

theorem w_mfir1 {X : Scr} {dp : Nat} {h : Hp} {Q : Option Value → Hp → Prop} (w : Int32) (f : Int32) (m : Int32) (p : Int32) (x : Value) (hs : HS h)
    (vc : ((condB .ge p (h.2.1 93 0) = true → ((condB .ne w 0 = true → Q (some (.int m)) h) ∧ (condB .ne w 0 = false → Q (some (.int f)) h))) ∧ (condB .ge p (h.2.1 93 0) = false → Ends X dp 139 0 [.ref 93, .int p] [] h (fun rv h3 => ∃ r4, rv = some (.int r4) ∧ HS h3 ∧ ((condB .ne r4 0 = true → Ends X dp 157 0 [.ref 93, .retAddr 0, .retAddr 0, .retAddr 0, .retAddr 0, .retAddr 0] [] (hpI h3 93 2 ((h3.2.1 93 2) ||| (1 <<< (p &&& 31)))) (fun rv h7 => ∃ r8, rv = some (.int r8) ∧ HS h7 ∧ Ends X dp 111 0 [.ref 93, .int r8, .retAddr 0, .retAddr 0] [] h7 (fun rv h10 => ∃ r11, rv = some (.int r11) ∧ HS h10 ∧ ((condB .gt r11 m = true → Ends X (dp + 1) 165 21 [.ref 93, .int w, .int p, .int r11, .int (p + 1), .int r11] [] (hpI h10 93 2 ((h10.2.1 93 2) &&& ((1 <<< (p &&& 31)) ^^^ (-1)))) Q) ∧ (condB .gt r11 m = false → Ends X (dp + 1) 165 21 [.ref 93, .int w, .int f, .int m, .int (p + 1), .int r11] [] (hpI h10 93 2 ((h10.2.1 93 2) &&& ((1 <<< (p &&& 31)) ^^^ (-1)))) Q))))) ∧ (condB .ne r4 0 = false → Ends X (dp + 1) 165 21 [.ref 93, .int w, .int f, .int m, .int (p + 1), x] [] h3 Q)))))) :
    Ends X (dp + 1) 165 21 [.ref 93, .int w, .int f, .int m, .int p, x] [] h Q := by
  have ra : ∀ {a : Nat}, a < 1000 → a ≤ OLDB := fun h => by have := OLDB_eq; omega
  refine e_iload (show pAt 165 21 = some (21, .iload 4, 2, []) from by decide +kernel) rfl ?_
  refine e_aload_n (show pAt 165 23 = some (23, .aload_n 0, 1, []) from by decide +kernel) rfl (ra (by decide)) ?_
  refine e_gIv (v := h.2.1 93 0) (show pAt 165 24 = some (24, .getfield 7, 3, [7, 0, 0, 4123]) from by decide +kernel) (show HS h from hs) rfl (by decide) rfl ?_
  refine e_icmp (t := 101) (show pAt 165 27 = some (27, .if_icmp .ge 74, 3, []) from by decide +kernel) rfl (fun c1 => ?_) (fun c1 => ?_)
  · replace vc := vc.1 c1
    refine e_iload_n (show pAt 165 101 = some (101, .iload_n 1, 1, []) from by decide +kernel) rfl ?_
    refine e_if (t := 109) (show pAt 165 102 = some (102, .ifCond .ne 7, 3, []) from by decide +kernel) rfl (fun c2 => ?_) (fun c2 => ?_)
    · replace vc := vc.1 c2
      refine e_iload_n (show pAt 165 109 = some (109, .iload_n 3, 1, []) from by decide +kernel) rfl ?_
      exact e_retI (show pAt 165 110 = some (110, .ireturn, 1, []) from by decide +kernel) rfl vc
    · replace vc := vc.2 c2
      refine e_iload_n (show pAt 165 105 = some (105, .iload_n 2, 1, []) from by decide +kernel) rfl ?_
      refine e_goto (t := 110) (show pAt 165 106 = some (106, .goto 4, 3, []) from by decide +kernel) rfl ?_
      exact e_retI (show pAt 165 110 = some (110, .ireturn, 1, []) from by decide +kernel) rfl vc
  · replace vc := vc.2 c1
    refine e_aload_n (show pAt 165 30 = some (30, .aload_n 0, 1, []) from by decide +kernel) rfl (ra (by decide)) ?_
    refine e_iload (show pAt 165 31 = some (31, .iload 4, 2, []) from by decide +kernel) rfl ?_
    refine Ends.call (show pAt 165 33 = some (33, .invokevirtual 291, 3, [139, 2, 0, 0, 5169, 5171, 70]) from by decide +kernel) (isRet_none rfl) rfl (call_this (show HS h from hs) rfl rfl (by decide)) (Ends.mono vc ?_)
    rintro _ h3 ⟨r4, rfl, hs_h3, vc⟩
    refine e_if (t := 42) (show pAt 165 36 = some (36, .ifCond .ne 6, 3, []) from by decide +kernel) rfl (fun c6 => ?_) (fun c6 => ?_)
    · replace vc := vc.1 c6
      refine e_aload_n (show pAt 165 42 = some (42, .aload_n 0, 1, []) from by decide +kernel) rfl (ra (by decide)) ?_
      refine e_dupR (show pAt 165 43 = some (43, .dup, 1, []) from by decide +kernel) ?_
      refine e_gIv (v := h3.2.1 93 2) (show pAt 165 44 = some (44, .getfield 16, 3, [7, 2, 0, 4125]) from by decide +kernel) (show HS h3 from hs_h3) rfl (by decide) rfl ?_
      refine e_iconst (c := 1) (show pAt 165 47 = some (47, .iconst 1, 1, []) from by decide +kernel) (by decide) ?_
      refine e_iload (show pAt 165 48 = some (48, .iload 4, 2, []) from by decide +kernel) rfl ?_
      refine e_ishl (show pAt 165 50 = some (50, .ishl, 1, []) from by decide +kernel) ?_
      refine e_ior (show pAt 165 51 = some (51, .ior, 1, []) from by decide +kernel) ?_
      refine e_pI (show pAt 165 52 = some (52, .putfield 16, 3, [7, 2, 0, 4125]) from by decide +kernel) (show HS h3 from hs_h3) (by decide) (Or.inl rfl) ?_
      refine e_aload_n (show pAt 165 55 = some (55, .aload_n 0, 1, []) from by decide +kernel) rfl (ra (by decide)) ?_
      refine e_aload_n (show pAt 165 56 = some (56, .aload_n 0, 1, []) from by decide +kernel) rfl (ra (by decide)) ?_
      refine Ends.call (show pAt 165 57 = some (57, .invokevirtual 333, 3, [157, 1, 0, 0, 6009, 6011, 88]) from by decide +kernel) (isRet_none rfl) rfl (call_this (show HS (hpI h3 93 2 ((h3.2.1 93 2) ||| (1 <<< (p &&& 31)))) from hs_h3) rfl rfl (by decide)) (Ends.mono vc ?_)
      rintro _ h7 ⟨r8, rfl, hs_h7, vc⟩
      refine Ends.call (show pAt 165 60 = some (60, .invokevirtual 342, 3, [111, 2, 0, 0, 6045, 6047, 96]) from by decide +kernel) (isRet_none rfl) rfl (call_this (show HS h7 from hs_h7) rfl rfl (by decide)) (Ends.mono vc ?_)
      rintro _ h10 ⟨r11, rfl, hs_h10, vc⟩
      refine e_istore (show pAt 165 63 = some (63, .istore 5, 2, []) from by decide +kernel) ⟨Nat.le_of_ble_eq_true rfl, rfl⟩ rfl ?_
      refine e_aload_n (show pAt 165 65 = some (65, .aload_n 0, 1, []) from by decide +kernel) rfl (ra (by decide)) ?_
      refine e_dupR (show pAt 165 66 = some (66, .dup, 1, []) from by decide +kernel) ?_
      refine e_gIv (v := h10.2.1 93 2) (show pAt 165 67 = some (67, .getfield 16, 3, [7, 2, 0, 4125]) from by decide +kernel) (show HS h10 from hs_h10) rfl (by decide) rfl ?_
      refine e_iconst (c := 1) (show pAt 165 70 = some (70, .iconst 1, 1, []) from by decide +kernel) (by decide) ?_
      refine e_iload (show pAt 165 71 = some (71, .iload 4, 2, []) from by decide +kernel) rfl ?_
      refine e_ishl (show pAt 165 73 = some (73, .ishl, 1, []) from by decide +kernel) ?_
      refine e_iconst (c := (-1)) (show pAt 165 74 = some (74, .iconst (-1), 1, []) from by decide +kernel) (by decide) ?_
      refine e_ixor (show pAt 165 75 = some (75, .ixor, 1, []) from by decide +kernel) ?_
      refine e_iand (show pAt 165 76 = some (76, .iand, 1, []) from by decide +kernel) ?_
      refine e_pI (show pAt 165 77 = some (77, .putfield 16, 3, [7, 2, 0, 4125]) from by decide +kernel) (show HS h10 from hs_h10) (by decide) (Or.inl rfl) ?_
      refine e_iload (show pAt 165 80 = some (80, .iload 5, 2, []) from by decide +kernel) rfl ?_
      refine e_iload_n (show pAt 165 82 = some (82, .iload_n 3, 1, []) from by decide +kernel) rfl ?_
      refine e_icmp (t := 89) (show pAt 165 83 = some (83, .if_icmp .gt 6, 3, []) from by decide +kernel) rfl (fun c13 => ?_) (fun c13 => ?_)
      · replace vc := vc.1 c13
        refine e_iload (show pAt 165 89 = some (89, .iload 4, 2, []) from by decide +kernel) rfl ?_
        refine e_istore_n (show pAt 165 91 = some (91, .istore_n 2, 1, []) from by decide +kernel) ⟨Nat.le_of_ble_eq_true rfl, rfl⟩ rfl ?_
        refine e_iload (show pAt 165 92 = some (92, .iload 5, 2, []) from by decide +kernel) rfl ?_
        refine e_istore_n (show pAt 165 94 = some (94, .istore_n 3, 1, []) from by decide +kernel) ⟨Nat.le_of_ble_eq_true rfl, rfl⟩ rfl ?_
        refine e_iinc (c := 1) (show pAt 165 95 = some (95, .iinc 4 1, 3, []) from by decide +kernel) rfl rfl (by decide) rfl ?_
        refine e_goto (t := 21) (show pAt 165 98 = some (98, .goto (-77), 3, []) from by decide +kernel) rfl ?_
        exact vc
      · replace vc := vc.2 c13
        refine e_goto (t := 95) (show pAt 165 86 = some (86, .goto 9, 3, []) from by decide +kernel) rfl ?_
        refine e_iinc (c := 1) (show pAt 165 95 = some (95, .iinc 4 1, 3, []) from by decide +kernel) rfl rfl (by decide) rfl ?_
        refine e_goto (t := 21) (show pAt 165 98 = some (98, .goto (-77), 3, []) from by decide +kernel) rfl ?_
        exact vc
    · replace vc := vc.2 c6
      refine e_goto (t := 95) (show pAt 165 39 = some (39, .goto 56, 3, []) from by decide +kernel) rfl ?_
      refine e_iinc (c := 1) (show pAt 165 95 = some (95, .iinc 4 1, 3, []) from by decide +kernel) rfl rfl (by decide) rfl ?_
      refine e_goto (t := 21) (show pAt 165 98 = some (98, .goto (-77), 3, []) from by decide +kernel) rfl ?_
      exact vc

theorem w_msta0 {X : Scr} {dp : Nat} {h : Hp} {Q : Option Value → Hp → Prop} (c : Int32) (w : Int32) (hs : HS h)
    (vc : Ends X dp 112 0 [.ref 93, .int c] [] h (fun rv h1 => ∃ r2, rv = some (.int r2) ∧ HS h1 ∧ ((condB .eq r2 0 = true → Q (some (.int (-1))) h1) ∧ (condB .eq r2 0 = false → Ends X dp 109 0 [.ref 93, .int w, .int 0, .int 1] [] h1 (fun rv h5 => ∃ r6, rv = some (.int r6) ∧ HS h5 ∧ ((condB .ne r6 0 = true → Ends X dp 139 0 [.ref 93, .int c] [] h5 (fun rv h9 => ∃ r10, rv = some (.int r10) ∧ HS h9 ∧ ((condB .eq r10 0 = true → (inB c 7 = true ∧ Ends X (dp + 1) 166 47 [.ref 93, .int c, .int w, .int (h9.2.1 96 c.toNatClampNeg), .int 0, .int (-1), .int 0, .retAddr 0] [] h9 Q)) ∧ (condB .eq r10 0 = false → Q (some (.int (-3))) h9)))) ∧ (condB .ne r6 0 = false → Q (some (.int (-1))) h5))))))) :
    Ends X (dp + 1) 166 0 [.ref 93, .int c, .int w, .retAddr 0, .retAddr 0, .retAddr 0, .retAddr 0, .retAddr 0] [] h Q := by
  have ra : ∀ {a : Nat}, a < 1000 → a ≤ OLDB := fun h => by have := OLDB_eq; omega
  refine e_aload_n (show pAt 166 0 = some (0, .aload_n 0, 1, []) from by decide +kernel) rfl (ra (by decide)) ?_
  refine e_iload_n (show pAt 166 1 = some (1, .iload_n 1, 1, []) from by decide +kernel) rfl ?_
  refine Ends.call (show pAt 166 2 = some (2, .invokevirtual 210, 3, [112, 2, 0, 0, 5089, 5091, 55]) from by decide +kernel) (isRet_none rfl) rfl (call_this (show HS h from hs) rfl rfl (by decide)) (Ends.mono vc ?_)
  rintro _ h1 ⟨r2, rfl, hs_h1, vc⟩
  refine e_if (t := 18) (show pAt 166 5 = some (5, .ifCond .eq 13, 3, []) from by decide +kernel) rfl (fun c4 => ?_) (fun c4 => ?_)
  · replace vc := vc.1 c4
    refine e_iconst (c := (-1)) (show pAt 166 18 = some (18, .iconst (-1), 1, []) from by decide +kernel) (by decide) ?_
    exact e_retI (show pAt 166 19 = some (19, .ireturn, 1, []) from by decide +kernel) rfl vc
  · replace vc := vc.2 c4
    refine e_aload_n (show pAt 166 8 = some (8, .aload_n 0, 1, []) from by decide +kernel) rfl (ra (by decide)) ?_
    refine e_iload_n (show pAt 166 9 = some (9, .iload_n 2, 1, []) from by decide +kernel) rfl ?_
    refine e_iconst (c := 0) (show pAt 166 10 = some (10, .iconst 0, 1, []) from by decide +kernel) (by decide) ?_
    refine e_iconst (c := 1) (show pAt 166 11 = some (11, .iconst 1, 1, []) from by decide +kernel) (by decide) ?_
    refine Ends.call (show pAt 166 12 = some (12, .invokevirtual 206, 3, [109, 4, 0, 0, 5081, 5083, 54]) from by decide +kernel) (isRet_none rfl) rfl (call_this (show HS h1 from hs_h1) rfl rfl (by decide)) (Ends.mono vc ?_)
    rintro _ h5 ⟨r6, rfl, hs_h5, vc⟩
    refine e_if (t := 20) (show pAt 166 15 = some (15, .ifCond .ne 5, 3, []) from by decide +kernel) rfl (fun c8 => ?_) (fun c8 => ?_)
    · replace vc := vc.1 c8
      refine e_aload_n (show pAt 166 20 = some (20, .aload_n 0, 1, []) from by decide +kernel) rfl (ra (by decide)) ?_
      refine e_iload_n (show pAt 166 21 = some (21, .iload_n 1, 1, []) from by decide +kernel) rfl ?_
      refine Ends.call (show pAt 166 22 = some (22, .invokevirtual 291, 3, [139, 2, 0, 0, 5169, 5171, 70]) from by decide +kernel) (isRet_none rfl) rfl (call_this (show HS h5 from hs_h5) rfl rfl (by decide)) (Ends.mono vc ?_)
      rintro _ h9 ⟨r10, rfl, hs_h9, vc⟩
      refine e_if (t := 31) (show pAt 166 25 = some (25, .ifCond .eq 6, 3, []) from by decide +kernel) rfl (fun c12 => ?_) (fun c12 => ?_)
      · replace vc := vc.1 c12
        refine e_aload_n (show pAt 166 31 = some (31, .aload_n 0, 1, []) from by decide +kernel) rfl (ra (by decide)) ?_
        refine e_gR (show pAt 166 32 = some (32, .getfield 26, 3, [7, 5, 0, 4128]) from by decide +kernel) (show HS h9 from hs_h9) rfl (by decide) (hs_ref (show HS h9 from hs_h9) rfl) ?_
        refine e_iload_n (show pAt 166 35 = some (35, .iload_n 1, 1, []) from by decide +kernel) rfl ?_
        obtain ⟨c13, vc⟩ := vc
        refine e_aldv (v := h9.2.1 96 c.toNatClampNeg) (show pAt 166 36 = some (36, .iaload, 1, []) from by decide +kernel) (show HS h9 from hs_h9) (by decide) c13 rfl ?_
        refine e_istore_n (show pAt 166 37 = some (37, .istore_n 3, 1, []) from by decide +kernel) ⟨Nat.le_of_ble_eq_true rfl, rfl⟩ rfl ?_
        refine e_iconst (c := 0) (show pAt 166 38 = some (38, .iconst 0, 1, []) from by decide +kernel) (by decide) ?_
        refine e_istore (show pAt 166 39 = some (39, .istore 4, 2, []) from by decide +kernel) ⟨Nat.le_of_ble_eq_true rfl, rfl⟩ rfl ?_
        refine e_iconst (c := (-1)) (show pAt 166 41 = some (41, .iconst (-1), 1, []) from by decide +kernel) (by decide) ?_
        refine e_istore (show pAt 166 42 = some (42, .istore 5, 2, []) from by decide +kernel) ⟨Nat.le_of_ble_eq_true rfl, rfl⟩ rfl ?_
        refine e_iconst (c := 0) (show pAt 166 44 = some (44, .iconst 0, 1, []) from by decide +kernel) (by decide) ?_
        refine e_istore (show pAt 166 45 = some (45, .istore 6, 2, []) from by decide +kernel) ⟨Nat.le_of_ble_eq_true rfl, rfl⟩ rfl ?_
        exact vc
      · replace vc := vc.2 c12
        refine e_bipush (c := (-3)) (show pAt 166 28 = some (28, .bipush (-3), 2, []) from by decide +kernel) (by decide) ?_
        exact e_retI (show pAt 166 30 = some (30, .ireturn, 1, []) from by decide +kernel) rfl vc
    · replace vc := vc.2 c8
      refine e_iconst (c := (-1)) (show pAt 166 18 = some (18, .iconst (-1), 1, []) from by decide +kernel) (by decide) ?_
      exact e_retI (show pAt 166 19 = some (19, .ireturn, 1, []) from by decide +kernel) rfl vc

theorem w_msta1 {X : Scr} {dp : Nat} {h : Hp} {Q : Option Value → Hp → Prop} (c : Int32) (w : Int32) (o : Int32) (f : Int32) (m : Int32) (l : Int32) (x : Value) (hs : HS h)
    (vc : ((condB .ge l 7 = true → (inB c 7 = true ∧ ((condB .ne w 0 = true → Q (some (.int m)) (hpI h 96 c.toNatClampNeg o)) ∧ (condB .ne w 0 = false → Q (some (.int f)) (hpI h 96 c.toNatClampNeg o))))) ∧ (condB .ge l 7 = false → (inB c 7 = true ∧ Ends X dp 157 0 [.ref 93, .retAddr 0, .retAddr 0, .retAddr 0, .retAddr 0, .retAddr 0] [] (hpI h 96 c.toNatClampNeg l) (fun rv h5 => ∃ r6, rv = some (.int r6) ∧ HS h5 ∧ Ends X dp 111 0 [.ref 93, .int r6, .retAddr 0, .retAddr 0] [] h5 (fun rv h8 => ∃ r9, rv = some (.int r9) ∧ HS h8 ∧ ((condB .gt r9 m = true → Ends X (dp + 1) 166 47 [.ref 93, .int c, .int w, .int o, .int l, .int r9, .int (l + 1), .int r9] [] h8 Q) ∧ (condB .gt r9 m = false → Ends X (dp + 1) 166 47 [.ref 93, .int c, .int w, .int o, .int f, .int m, .int (l + 1), .int r9] [] h8 Q)))))))) :
    Ends X (dp + 1) 166 47 [.ref 93, .int c, .int w, .int o, .int f, .int m, .int l, x] [] h Q := by
  have ra : ∀ {a : Nat}, a < 1000 → a ≤ OLDB := fun h => by have := OLDB_eq; omega
  refine e_iload (show pAt 166 47 = some (47, .iload 6, 2, []) from by decide +kernel) rfl ?_
  refine e_bipush (c := 7) (show pAt 166 49 = some (49, .bipush 7, 2, []) from by decide +kernel) (by decide) ?_
  refine e_icmp (t := 96) (show pAt 166 51 = some (51, .if_icmp .ge 45, 3, []) from by decide +kernel) rfl (fun c1 => ?_) (fun c1 => ?_)
  · replace vc := vc.1 c1
    refine e_aload_n (show pAt 166 96 = some (96, .aload_n 0, 1, []) from by decide +kernel) rfl (ra (by decide)) ?_
    refine e_gR (show pAt 166 97 = some (97, .getfield 26, 3, [7, 5, 0, 4128]) from by decide +kernel) (show HS h from hs) rfl (by decide) (hs_ref (show HS h from hs) rfl) ?_
    refine e_iload_n (show pAt 166 100 = some (100, .iload_n 1, 1, []) from by decide +kernel) rfl ?_
    refine e_iload_n (show pAt 166 101 = some (101, .iload_n 3, 1, []) from by decide +kernel) rfl ?_
    obtain ⟨c2, vc⟩ := vc
    refine e_ast (show pAt 166 102 = some (102, .iastore, 1, []) from by decide +kernel) (show HS h from hs) (by decide) c2 ?_
    refine e_iload_n (show pAt 166 103 = some (103, .iload_n 2, 1, []) from by decide +kernel) rfl ?_
    refine e_if (t := 112) (show pAt 166 104 = some (104, .ifCond .ne 8, 3, []) from by decide +kernel) rfl (fun c3 => ?_) (fun c3 => ?_)
    · replace vc := vc.1 c3
      refine e_iload (show pAt 166 112 = some (112, .iload 5, 2, []) from by decide +kernel) rfl ?_
      exact e_retI (show pAt 166 114 = some (114, .ireturn, 1, []) from by decide +kernel) rfl vc
    · replace vc := vc.2 c3
      refine e_iload (show pAt 166 107 = some (107, .iload 4, 2, []) from by decide +kernel) rfl ?_
      refine e_goto (t := 114) (show pAt 166 109 = some (109, .goto 5, 3, []) from by decide +kernel) rfl ?_
      exact e_retI (show pAt 166 114 = some (114, .ireturn, 1, []) from by decide +kernel) rfl vc
  · replace vc := vc.2 c1
    refine e_aload_n (show pAt 166 54 = some (54, .aload_n 0, 1, []) from by decide +kernel) rfl (ra (by decide)) ?_
    refine e_gR (show pAt 166 55 = some (55, .getfield 26, 3, [7, 5, 0, 4128]) from by decide +kernel) (show HS h from hs) rfl (by decide) (hs_ref (show HS h from hs) rfl) ?_
    refine e_iload_n (show pAt 166 58 = some (58, .iload_n 1, 1, []) from by decide +kernel) rfl ?_
    refine e_iload (show pAt 166 59 = some (59, .iload 6, 2, []) from by decide +kernel) rfl ?_
    obtain ⟨c4, vc⟩ := vc
    refine e_ast (show pAt 166 61 = some (61, .iastore, 1, []) from by decide +kernel) (show HS h from hs) (by decide) c4 ?_
    refine e_aload_n (show pAt 166 62 = some (62, .aload_n 0, 1, []) from by decide +kernel) rfl (ra (by decide)) ?_
    refine e_aload_n (show pAt 166 63 = some (63, .aload_n 0, 1, []) from by decide +kernel) rfl (ra (by decide)) ?_
    refine Ends.call (show pAt 166 64 = some (64, .invokevirtual 333, 3, [157, 1, 0, 0, 6009, 6011, 88]) from by decide +kernel) (isRet_none rfl) rfl (call_this (show HS (hpI h 96 c.toNatClampNeg l) from hs) rfl rfl (by decide)) (Ends.mono vc ?_)
    rintro _ h5 ⟨r6, rfl, hs_h5, vc⟩
    refine Ends.call (show pAt 166 67 = some (67, .invokevirtual 342, 3, [111, 2, 0, 0, 6045, 6047, 96]) from by decide +kernel) (isRet_none rfl) rfl (call_this (show HS h5 from hs_h5) rfl rfl (by decide)) (Ends.mono vc ?_)
    rintro _ h8 ⟨r9, rfl, hs_h8, vc⟩
    refine e_istore (show pAt 166 70 = some (70, .istore 7, 2, []) from by decide +kernel) ⟨Nat.le_of_ble_eq_true rfl, rfl⟩ rfl ?_
    refine e_iload (show pAt 166 72 = some (72, .iload 7, 2, []) from by decide +kernel) rfl ?_
    refine e_iload (show pAt 166 74 = some (74, .iload 5, 2, []) from by decide +kernel) rfl ?_
    refine e_icmp (t := 82) (show pAt 166 76 = some (76, .if_icmp .gt 6, 3, []) from by decide +kernel) rfl (fun c11 => ?_) (fun c11 => ?_)
    · replace vc := vc.1 c11
      refine e_iload (show pAt 166 82 = some (82, .iload 6, 2, []) from by decide +kernel) rfl ?_
      refine e_istore (show pAt 166 84 = some (84, .istore 4, 2, []) from by decide +kernel) ⟨Nat.le_of_ble_eq_true rfl, rfl⟩ rfl ?_
      refine e_iload (show pAt 166 86 = some (86, .iload 7, 2, []) from by decide +kernel) rfl ?_
      refine e_istore (show pAt 166 88 = some (88, .istore 5, 2, []) from by decide +kernel) ⟨Nat.le_of_ble_eq_true rfl, rfl⟩ rfl ?_
      refine e_iinc (c := 1) (show pAt 166 90 = some (90, .iinc 6 1, 3, []) from by decide +kernel) rfl rfl (by decide) rfl ?_
      refine e_goto (t := 47) (show pAt 166 93 = some (93, .goto (-46), 3, []) from by decide +kernel) rfl ?_
      exact vc
    · replace vc := vc.2 c11
      refine e_goto (t := 90) (show pAt 166 79 = some (79, .goto 11, 3, []) from by decide +kernel) rfl ?_
      refine e_iinc (c := 1) (show pAt 166 90 = some (90, .iinc 6 1, 3, []) from by decide +kernel) rfl rfl (by decide) rfl ?_
      refine e_goto (t := 47) (show pAt 166 93 = some (93, .goto (-46), 3, []) from by decide +kernel) rfl ?_
      exact vc

theorem w_mbes0 {X : Scr} {dp : Nat} {h : Hp} {Q : Option Value → Hp → Prop} (p : Int32) (hs : HS h)
    (vc : Ends X dp 112 0 [.ref 93, .int p] [] h (fun rv h1 => ∃ r2, rv = some (.int r2) ∧ HS h1 ∧ ((condB .ne r2 0 = true → Ends X dp 139 0 [.ref 93, .int p] [] h1 (fun rv h5 => ∃ r6, rv = some (.int r6) ∧ HS h5 ∧ ((condB .ne r6 0 = true → Ends X (dp + 1) 167 30 [.ref 93, .int p, .int 0, .int 0] [] (hpI h5 93 28 p) Q) ∧ (condB .ne r6 0 = false → Q (some (.int (-3))) h5)))) ∧ (condB .ne r2 0 = false → Q (some (.int (-1))) h1)))) :
    Ends X (dp + 1) 167 0 [.ref 93, .int p, .retAddr 0, .retAddr 0] [] h Q := by
  have ra : ∀ {a : Nat}, a < 1000 → a ≤ OLDB := fun h => by have := OLDB_eq; omega
  refine e_aload_n (show pAt 167 0 = some (0, .aload_n 0, 1, []) from by decide +kernel) rfl (ra (by decide)) ?_
  refine e_iload_n (show pAt 167 1 = some (1, .iload_n 1, 1, []) from by decide +kernel) rfl ?_
  refine Ends.call (show pAt 167 2 = some (2, .invokevirtual 210, 3, [112, 2, 0, 0, 5089, 5091, 55]) from by decide +kernel) (isRet_none rfl) rfl (call_this (show HS h from hs) rfl rfl (by decide)) (Ends.mono vc ?_)
  rintro _ h1 ⟨r2, rfl, hs_h1, vc⟩
  refine e_if (t := 10) (show pAt 167 5 = some (5, .ifCond .ne 5, 3, []) from by decide +kernel) rfl (fun c4 => ?_) (fun c4 => ?_)
  · replace vc := vc.1 c4
    refine e_aload_n (show pAt 167 10 = some (10, .aload_n 0, 1, []) from by decide +kernel) rfl (ra (by decide)) ?_
    refine e_iload_n (show pAt 167 11 = some (11, .iload_n 1, 1, []) from by decide +kernel) rfl ?_
    refine Ends.call (show pAt 167 12 = some (12, .invokevirtual 291, 3, [139, 2, 0, 0, 5169, 5171, 70]) from by decide +kernel) (isRet_none rfl) rfl (call_this (show HS h1 from hs_h1) rfl rfl (by decide)) (Ends.mono vc ?_)
    rintro _ h5 ⟨r6, rfl, hs_h5, vc⟩
    refine e_if (t := 21) (show pAt 167 15 = some (15, .ifCond .ne 6, 3, []) from by decide +kernel) rfl (fun c8 => ?_) (fun c8 => ?_)
    · replace vc := vc.1 c8
      refine e_iconst (c := 0) (show pAt 167 21 = some (21, .iconst 0, 1, []) from by decide +kernel) (by decide) ?_
      refine e_istore_n (show pAt 167 22 = some (22, .istore_n 2, 1, []) from by decide +kernel) ⟨Nat.le_of_ble_eq_true rfl, rfl⟩ rfl ?_
      refine e_aload_n (show pAt 167 23 = some (23, .aload_n 0, 1, []) from by decide +kernel) rfl (ra (by decide)) ?_
      refine e_iload_n (show pAt 167 24 = some (24, .iload_n 1, 1, []) from by decide +kernel) rfl ?_
      refine e_pI (show pAt 167 25 = some (25, .putfield 97, 3, [7, 28, 0, 4151]) from by decide +kernel) (show HS h5 from hs_h5) (by decide) (Or.inl rfl) ?_
      refine e_iconst (c := 0) (show pAt 167 28 = some (28, .iconst 0, 1, []) from by decide +kernel) (by decide) ?_
      refine e_istore_n (show pAt 167 29 = some (29, .istore_n 3, 1, []) from by decide +kernel) ⟨Nat.le_of_ble_eq_true rfl, rfl⟩ rfl ?_
      exact vc
    · replace vc := vc.2 c8
      refine e_bipush (c := (-3)) (show pAt 167 18 = some (18, .bipush (-3), 2, []) from by decide +kernel) (by decide) ?_
      exact e_retI (show pAt 167 20 = some (20, .ireturn, 1, []) from by decide +kernel) rfl vc
  · replace vc := vc.2 c4
    refine e_iconst (c := (-1)) (show pAt 167 8 = some (8, .iconst (-1), 1, []) from by decide +kernel) (by decide) ?_
    exact e_retI (show pAt 167 9 = some (9, .ireturn, 1, []) from by decide +kernel) rfl vc

theorem w_mbes1 {X : Scr} {dp : Nat} {h : Hp} {Q : Option Value → Hp → Prop} (p : Int32) (s : Int32) (l : Int32) (hs : HS h)
    (vc : ((condB .ge l 7 = true → Q (some (.int s)) (hpI h 93 28 (-1))) ∧ (condB .ge l 7 = false → Ends X dp 157 0 [.ref 93, .retAddr 0, .retAddr 0, .retAddr 0, .retAddr 0, .retAddr 0] [] (hpI h 93 29 l) (fun rv h2 => ∃ r3, rv = some (.int r3) ∧ HS h2 ∧ Ends X dp 110 0 [.ref 93, .int r3, .int p] [] h2 (fun rv h5 => ∃ r6, rv = some (.int r6) ∧ HS h5 ∧ ((condB .eq r6 0 = true → Ends X (dp + 1) 167 30 [.ref 93, .int p, .int (s ||| (1 <<< (l &&& 31))), .int (l + 1)] [] h5 Q) ∧ (condB .eq r6 0 = false → Ends X (dp + 1) 167 30 [.ref 93, .int p, .int (s ||| 0), .int (l + 1)] [] h5 Q))))))) :
    Ends X (dp + 1) 167 30 [.ref 93, .int p, .int s, .int l] [] h Q := by
  have ra : ∀ {a : Nat}, a < 1000 → a ≤ OLDB := fun h => by have := OLDB_eq; omega
  refine e_iload_n (show pAt 167 30 = some (30, .iload_n 3, 1, []) from by decide +kernel) rfl ?_
  refine e_bipush (c := 7) (show pAt 167 31 = some (31, .bipush 7, 2, []) from by decide +kernel) (by decide) ?_
  refine e_icmp (t := 69) (show pAt 167 33 = some (33, .if_icmp .ge 36, 3, []) from by decide +kernel) rfl (fun c1 => ?_) (fun c1 => ?_)
  · replace vc := vc.1 c1
    refine e_aload_n (show pAt 167 69 = some (69, .aload_n 0, 1, []) from by decide +kernel) rfl (ra (by decide)) ?_
    refine e_iconst (c := (-1)) (show pAt 167 70 = some (70, .iconst (-1), 1, []) from by decide +kernel) (by decide) ?_
    refine e_pI (show pAt 167 71 = some (71, .putfield 97, 3, [7, 28, 0, 4151]) from by decide +kernel) (show HS h from hs) (by decide) (Or.inl rfl) ?_
    refine e_iload_n (show pAt 167 74 = some (74, .iload_n 2, 1, []) from by decide +kernel) rfl ?_
    exact e_retI (show pAt 167 75 = some (75, .ireturn, 1, []) from by decide +kernel) rfl vc
  · replace vc := vc.2 c1
    refine e_aload_n (show pAt 167 36 = some (36, .aload_n 0, 1, []) from by decide +kernel) rfl (ra (by decide)) ?_
    refine e_iload_n (show pAt 167 37 = some (37, .iload_n 3, 1, []) from by decide +kernel) rfl ?_
    refine e_pI (show pAt 167 38 = some (38, .putfield 100, 3, [7, 29, 0, 4152]) from by decide +kernel) (show HS h from hs) (by decide) (Or.inl rfl) ?_
    refine e_iload_n (show pAt 167 41 = some (41, .iload_n 2, 1, []) from by decide +kernel) rfl ?_
    refine e_aload_n (show pAt 167 42 = some (42, .aload_n 0, 1, []) from by decide +kernel) rfl (ra (by decide)) ?_
    refine e_aload_n (show pAt 167 43 = some (43, .aload_n 0, 1, []) from by decide +kernel) rfl (ra (by decide)) ?_
    refine Ends.call (show pAt 167 44 = some (44, .invokevirtual 333, 3, [157, 1, 0, 0, 6009, 6011, 88]) from by decide +kernel) (isRet_none rfl) rfl (call_this (show HS (hpI h 93 29 l) from hs) rfl rfl (by decide)) (Ends.mono vc ?_)
    rintro _ h2 ⟨r3, rfl, hs_h2, vc⟩
    refine e_iload_n (show pAt 167 47 = some (47, .iload_n 1, 1, []) from by decide +kernel) rfl ?_
    refine Ends.call (show pAt 167 48 = some (48, .invokevirtual 274, 3, [110, 3, 0, 0, 5173, 5175, 71]) from by decide +kernel) (isRet_none rfl) rfl (call_this (show HS h2 from hs_h2) rfl rfl (by decide)) (Ends.mono vc ?_)
    rintro _ h5 ⟨r6, rfl, hs_h5, vc⟩
    refine e_if (t := 58) (show pAt 167 51 = some (51, .ifCond .eq 7, 3, []) from by decide +kernel) rfl (fun c8 => ?_) (fun c8 => ?_)
    · replace vc := vc.1 c8
      refine e_iconst (c := 1) (show pAt 167 58 = some (58, .iconst 1, 1, []) from by decide +kernel) (by decide) ?_
      refine e_iload_n (show pAt 167 59 = some (59, .iload_n 3, 1, []) from by decide +kernel) rfl ?_
      refine e_ishl (show pAt 167 60 = some (60, .ishl, 1, []) from by decide +kernel) ?_
      refine e_ior (show pAt 167 61 = some (61, .ior, 1, []) from by decide +kernel) ?_
      refine e_istore_n (show pAt 167 62 = some (62, .istore_n 2, 1, []) from by decide +kernel) ⟨Nat.le_of_ble_eq_true rfl, rfl⟩ rfl ?_
      refine e_iinc (c := 1) (show pAt 167 63 = some (63, .iinc 3 1, 3, []) from by decide +kernel) rfl rfl (by decide) rfl ?_
      refine e_goto (t := 30) (show pAt 167 66 = some (66, .goto (-36), 3, []) from by decide +kernel) rfl ?_
      exact vc
    · replace vc := vc.2 c8
      refine e_iconst (c := 0) (show pAt 167 54 = some (54, .iconst 0, 1, []) from by decide +kernel) (by decide) ?_
      refine e_goto (t := 61) (show pAt 167 55 = some (55, .goto 6, 3, []) from by decide +kernel) rfl ?_
      refine e_ior (show pAt 167 61 = some (61, .ior, 1, []) from by decide +kernel) ?_
      refine e_istore_n (show pAt 167 62 = some (62, .istore_n 2, 1, []) from by decide +kernel) ⟨Nat.le_of_ble_eq_true rfl, rfl⟩ rfl ?_
      refine e_iinc (c := 1) (show pAt 167 63 = some (63, .iinc 3 1, 3, []) from by decide +kernel) rfl rfl (by decide) rfl ?_
      refine e_goto (t := 30) (show pAt 167 66 = some (66, .goto (-36), 3, []) from by decide +kernel) rfl ?_
      exact vc

theorem w_mnee0 {X : Scr} {dp : Nat} {h : Hp} {Q : Option Value → Hp → Prop} (p : Int32) (hs : HS h)
    (vc : Ends X dp 112 0 [.ref 93, .int p] [] h (fun rv h1 => ∃ r2, rv = some (.int r2) ∧ HS h1 ∧ ((condB .ne r2 0 = true → Ends X dp 139 0 [.ref 93, .int p] [] h1 (fun rv h5 => ∃ r6, rv = some (.int r6) ∧ HS h5 ∧ ((condB .ne r6 0 = true → (inB p 7 = true ∧ Ends X (dp + 1) 168 34 [.ref 93, .int p, .int (h5.2.1 98 p.toNatClampNeg), .int (-5), .int 0] [] h5 Q)) ∧ (condB .ne r6 0 = false → Q (some (.int (-3))) h5)))) ∧ (condB .ne r2 0 = false → Q (some (.int (-1))) h1)))) :
    Ends X (dp + 1) 168 0 [.ref 93, .int p, .retAddr 0, .retAddr 0, .retAddr 0] [] h Q := by
  have ra : ∀ {a : Nat}, a < 1000 → a ≤ OLDB := fun h => by have := OLDB_eq; omega
  refine e_aload_n (show pAt 168 0 = some (0, .aload_n 0, 1, []) from by decide +kernel) rfl (ra (by decide)) ?_
  refine e_iload_n (show pAt 168 1 = some (1, .iload_n 1, 1, []) from by decide +kernel) rfl ?_
  refine Ends.call (show pAt 168 2 = some (2, .invokevirtual 210, 3, [112, 2, 0, 0, 5089, 5091, 55]) from by decide +kernel) (isRet_none rfl) rfl (call_this (show HS h from hs) rfl rfl (by decide)) (Ends.mono vc ?_)
  rintro _ h1 ⟨r2, rfl, hs_h1, vc⟩
  refine e_if (t := 10) (show pAt 168 5 = some (5, .ifCond .ne 5, 3, []) from by decide +kernel) rfl (fun c4 => ?_) (fun c4 => ?_)
  · replace vc := vc.1 c4
    refine e_aload_n (show pAt 168 10 = some (10, .aload_n 0, 1, []) from by decide +kernel) rfl (ra (by decide)) ?_
    refine e_iload_n (show pAt 168 11 = some (11, .iload_n 1, 1, []) from by decide +kernel) rfl ?_
    refine Ends.call (show pAt 168 12 = some (12, .invokevirtual 291, 3, [139, 2, 0, 0, 5169, 5171, 70]) from by decide +kernel) (isRet_none rfl) rfl (call_this (show HS h1 from hs_h1) rfl rfl (by decide)) (Ends.mono vc ?_)
    rintro _ h5 ⟨r6, rfl, hs_h5, vc⟩
    refine e_if (t := 21) (show pAt 168 15 = some (15, .ifCond .ne 6, 3, []) from by decide +kernel) rfl (fun c8 => ?_) (fun c8 => ?_)
    · replace vc := vc.1 c8
      refine e_aload_n (show pAt 168 21 = some (21, .aload_n 0, 1, []) from by decide +kernel) rfl (ra (by decide)) ?_
      refine e_gR (show pAt 168 22 = some (22, .getfield 32, 3, [7, 7, 0, 4130]) from by decide +kernel) (show HS h5 from hs_h5) rfl (by decide) (hs_ref (show HS h5 from hs_h5) rfl) ?_
      refine e_iload_n (show pAt 168 25 = some (25, .iload_n 1, 1, []) from by decide +kernel) rfl ?_
      obtain ⟨c9, vc⟩ := vc
      refine e_aldv (v := h5.2.1 98 p.toNatClampNeg) (show pAt 168 26 = some (26, .iaload, 1, []) from by decide +kernel) (show HS h5 from hs_h5) (by decide) c9 rfl ?_
      refine e_istore_n (show pAt 168 27 = some (27, .istore_n 2, 1, []) from by decide +kernel) ⟨Nat.le_of_ble_eq_true rfl, rfl⟩ rfl ?_
      refine e_bipush (c := (-5)) (show pAt 168 28 = some (28, .bipush (-5), 2, []) from by decide +kernel) (by decide) ?_
      refine e_istore_n (show pAt 168 30 = some (30, .istore_n 3, 1, []) from by decide +kernel) ⟨Nat.le_of_ble_eq_true rfl, rfl⟩ rfl ?_
      refine e_iconst (c := 0) (show pAt 168 31 = some (31, .iconst 0, 1, []) from by decide +kernel) (by decide) ?_
      refine e_istore (show pAt 168 32 = some (32, .istore 4, 2, []) from by decide +kernel) ⟨Nat.le_of_ble_eq_true rfl, rfl⟩ rfl ?_
      exact vc
    · replace vc := vc.2 c8
      refine e_bipush (c := (-3)) (show pAt 168 18 = some (18, .bipush (-3), 2, []) from by decide +kernel) (by decide) ?_
      exact e_retI (show pAt 168 20 = some (20, .ireturn, 1, []) from by decide +kernel) rfl vc
  · replace vc := vc.2 c4
    refine e_iconst (c := (-1)) (show pAt 168 8 = some (8, .iconst (-1), 1, []) from by decide +kernel) (by decide) ?_
    exact e_retI (show pAt 168 9 = some (9, .ireturn, 1, []) from by decide +kernel) rfl vc

theorem w_mnee1 {X : Scr} {dp : Nat} {h : Hp} {Q : Option Value → Hp → Prop} (p : Int32) (w : Int32) (f : Int32) (s : Int32) (hs : HS h)
    (vc : ((condB .ge s 10 = true → (inB p 7 = true ∧ Q (some (.int f)) (hpI h 98 p.toNatClampNeg w))) ∧ (condB .ge s 10 = false → ((condB .ge f 0 = true → (inB p 7 = true ∧ Q (some (.int f)) (hpI h 98 p.toNatClampNeg w))) ∧ (condB .ge f 0 = false → (inB p 7 = true ∧ Ends X dp 157 0 [.ref 93, .retAddr 0, .retAddr 0, .retAddr 0, .retAddr 0, .retAddr 0] [] (hpI h 98 p.toNatClampNeg s) (fun rv h6 => ∃ r7, rv = some (.int r7) ∧ HS h6 ∧ Ends X dp 110 0 [.ref 93, .int r7, .int p] [] h6 (fun rv h9 => ∃ r10, rv = some (.int r10) ∧ HS h9 ∧ ((condB .eq r10 0 = true → Ends X (dp + 1) 168 34 [.ref 93, .int p, .int w, .int s, .int (s + 1)] [] h9 Q) ∧ (condB .eq r10 0 = false → Ends X (dp + 1) 168 34 [.ref 93, .int p, .int w, .int (-5), .int (s + 1)] [] h9 Q)))))))))) :
    Ends X (dp + 1) 168 34 [.ref 93, .int p, .int w, .int f, .int s] [] h Q := by
  have ra : ∀ {a : Nat}, a < 1000 → a ≤ OLDB := fun h => by have := OLDB_eq; omega
  refine e_iload (show pAt 168 34 = some (34, .iload 4, 2, []) from by decide +kernel) rfl ?_
  refine e_bipush (c := 10) (show pAt 168 36 = some (36, .bipush 10, 2, []) from by decide +kernel) (by decide) ?_
  refine e_icmp (t := 79) (show pAt 168 38 = some (38, .if_icmp .ge 41, 3, []) from by decide +kernel) rfl (fun c1 => ?_) (fun c1 => ?_)
  · replace vc := vc.1 c1
    refine e_aload_n (show pAt 168 79 = some (79, .aload_n 0, 1, []) from by decide +kernel) rfl (ra (by decide)) ?_
    refine e_gR (show pAt 168 80 = some (80, .getfield 32, 3, [7, 7, 0, 4130]) from by decide +kernel) (show HS h from hs) rfl (by decide) (hs_ref (show HS h from hs) rfl) ?_
    refine e_iload_n (show pAt 168 83 = some (83, .iload_n 1, 1, []) from by decide +kernel) rfl ?_
    refine e_iload_n (show pAt 168 84 = some (84, .iload_n 2, 1, []) from by decide +kernel) rfl ?_
    obtain ⟨c2, vc⟩ := vc
    refine e_ast (show pAt 168 85 = some (85, .iastore, 1, []) from by decide +kernel) (show HS h from hs) (by decide) c2 ?_
    refine e_iload_n (show pAt 168 86 = some (86, .iload_n 3, 1, []) from by decide +kernel) rfl ?_
    exact e_retI (show pAt 168 87 = some (87, .ireturn, 1, []) from by decide +kernel) rfl vc
  · replace vc := vc.2 c1
    refine e_iload_n (show pAt 168 41 = some (41, .iload_n 3, 1, []) from by decide +kernel) rfl ?_
    refine e_if (t := 79) (show pAt 168 42 = some (42, .ifCond .ge 37, 3, []) from by decide +kernel) rfl (fun c3 => ?_) (fun c3 => ?_)
    · replace vc := vc.1 c3
      refine e_aload_n (show pAt 168 79 = some (79, .aload_n 0, 1, []) from by decide +kernel) rfl (ra (by decide)) ?_
      refine e_gR (show pAt 168 80 = some (80, .getfield 32, 3, [7, 7, 0, 4130]) from by decide +kernel) (show HS h from hs) rfl (by decide) (hs_ref (show HS h from hs) rfl) ?_
      refine e_iload_n (show pAt 168 83 = some (83, .iload_n 1, 1, []) from by decide +kernel) rfl ?_
      refine e_iload_n (show pAt 168 84 = some (84, .iload_n 2, 1, []) from by decide +kernel) rfl ?_
      obtain ⟨c4, vc⟩ := vc
      refine e_ast (show pAt 168 85 = some (85, .iastore, 1, []) from by decide +kernel) (show HS h from hs) (by decide) c4 ?_
      refine e_iload_n (show pAt 168 86 = some (86, .iload_n 3, 1, []) from by decide +kernel) rfl ?_
      exact e_retI (show pAt 168 87 = some (87, .ireturn, 1, []) from by decide +kernel) rfl vc
    · replace vc := vc.2 c3
      refine e_aload_n (show pAt 168 45 = some (45, .aload_n 0, 1, []) from by decide +kernel) rfl (ra (by decide)) ?_
      refine e_gR (show pAt 168 46 = some (46, .getfield 32, 3, [7, 7, 0, 4130]) from by decide +kernel) (show HS h from hs) rfl (by decide) (hs_ref (show HS h from hs) rfl) ?_
      refine e_iload_n (show pAt 168 49 = some (49, .iload_n 1, 1, []) from by decide +kernel) rfl ?_
      refine e_iload (show pAt 168 50 = some (50, .iload 4, 2, []) from by decide +kernel) rfl ?_
      obtain ⟨c5, vc⟩ := vc
      refine e_ast (show pAt 168 52 = some (52, .iastore, 1, []) from by decide +kernel) (show HS h from hs) (by decide) c5 ?_
      refine e_aload_n (show pAt 168 53 = some (53, .aload_n 0, 1, []) from by decide +kernel) rfl (ra (by decide)) ?_
      refine e_aload_n (show pAt 168 54 = some (54, .aload_n 0, 1, []) from by decide +kernel) rfl (ra (by decide)) ?_
      refine Ends.call (show pAt 168 55 = some (55, .invokevirtual 333, 3, [157, 1, 0, 0, 6009, 6011, 88]) from by decide +kernel) (isRet_none rfl) rfl (call_this (show HS (hpI h 98 p.toNatClampNeg s) from hs) rfl rfl (by decide)) (Ends.mono vc ?_)
      rintro _ h6 ⟨r7, rfl, hs_h6, vc⟩
      refine e_iload_n (show pAt 168 58 = some (58, .iload_n 1, 1, []) from by decide +kernel) rfl ?_
      refine Ends.call (show pAt 168 59 = some (59, .invokevirtual 274, 3, [110, 3, 0, 0, 5173, 5175, 71]) from by decide +kernel) (isRet_none rfl) rfl (call_this (show HS h6 from hs_h6) rfl rfl (by decide)) (Ends.mono vc ?_)
      rintro _ h9 ⟨r10, rfl, hs_h9, vc⟩
      refine e_if (t := 70) (show pAt 168 62 = some (62, .ifCond .eq 8, 3, []) from by decide +kernel) rfl (fun c12 => ?_) (fun c12 => ?_)
      · replace vc := vc.1 c12
        refine e_iload (show pAt 168 70 = some (70, .iload 4, 2, []) from by decide +kernel) rfl ?_
        refine e_istore_n (show pAt 168 72 = some (72, .istore_n 3, 1, []) from by decide +kernel) ⟨Nat.le_of_ble_eq_true rfl, rfl⟩ rfl ?_
        refine e_iinc (c := 1) (show pAt 168 73 = some (73, .iinc 4 1, 3, []) from by decide +kernel) rfl rfl (by decide) rfl ?_
        refine e_goto (t := 34) (show pAt 168 76 = some (76, .goto (-42), 3, []) from by decide +kernel) rfl ?_
        exact vc
      · replace vc := vc.2 c12
        refine e_bipush (c := (-5)) (show pAt 168 65 = some (65, .bipush (-5), 2, []) from by decide +kernel) (by decide) ?_
        refine e_goto (t := 72) (show pAt 168 67 = some (67, .goto 5, 3, []) from by decide +kernel) rfl ?_
        refine e_istore_n (show pAt 168 72 = some (72, .istore_n 3, 1, []) from by decide +kernel) ⟨Nat.le_of_ble_eq_true rfl, rfl⟩ rfl ?_
        refine e_iinc (c := 1) (show pAt 168 73 = some (73, .iinc 4 1, 3, []) from by decide +kernel) rfl rfl (by decide) rfl ?_
        refine e_goto (t := 34) (show pAt 168 76 = some (76, .goto (-42), 3, []) from by decide +kernel) rfl ?_
        exact vc

theorem w_mhan {X : Scr} {dp : Nat} {h : Hp} {Q : Option Value → Hp → Prop}  (hs : HS h)
    (vc : Ends X dp 157 0 [.ref 93, .retAddr 0, .retAddr 0, .retAddr 0, .retAddr 0, .retAddr 0] [] (hpI h 93 27 1) (fun rv h1 => ∃ r2, rv = some (.int r2) ∧ HS h1 ∧ Q (some (.int (h1.2.1 93 35))) (hpI h1 93 27 0))) :
    Ends X (dp + 1) 169 0 [.ref 93, .retAddr 0] [] h Q := by
  have ra : ∀ {a : Nat}, a < 1000 → a ≤ OLDB := fun h => by have := OLDB_eq; omega
  refine e_aload_n (show pAt 169 0 = some (0, .aload_n 0, 1, []) from by decide +kernel) rfl (ra (by decide)) ?_
  refine e_iconst (c := 1) (show pAt 169 1 = some (1, .iconst 1, 1, []) from by decide +kernel) (by decide) ?_
  refine e_pI (show pAt 169 2 = some (2, .putfield 93, 3, [7, 27, 0, 4150]) from by decide +kernel) (show HS h from hs) (by decide) (Or.inr (by decide)) ?_
  refine e_aload_n (show pAt 169 5 = some (5, .aload_n 0, 1, []) from by decide +kernel) rfl (ra (by decide)) ?_
  refine Ends.call (show pAt 169 6 = some (6, .invokevirtual 333, 3, [157, 1, 0, 0, 6009, 6011, 88]) from by decide +kernel) (isRet_none rfl) rfl (call_this (show HS (hpI h 93 27 1) from hs) rfl rfl (by decide)) (Ends.mono vc ?_)
  rintro _ h1 ⟨r2, rfl, hs_h1, vc⟩
  refine e_istore_n (show pAt 169 9 = some (9, .istore_n 1, 1, []) from by decide +kernel) ⟨Nat.le_of_ble_eq_true rfl, rfl⟩ rfl ?_
  refine e_aload_n (show pAt 169 10 = some (10, .aload_n 0, 1, []) from by decide +kernel) rfl (ra (by decide)) ?_
  refine e_iconst (c := 0) (show pAt 169 11 = some (11, .iconst 0, 1, []) from by decide +kernel) (by decide) ?_
  refine e_pI (show pAt 169 12 = some (12, .putfield 93, 3, [7, 27, 0, 4150]) from by decide +kernel) (show HS h1 from hs_h1) (by decide) (Or.inr (by decide)) ?_
  refine e_aload_n (show pAt 169 15 = some (15, .aload_n 0, 1, []) from by decide +kernel) rfl (ra (by decide)) ?_
  refine e_gIv (v := h1.2.1 93 35) (show pAt 169 16 = some (16, .getfield 118, 3, [7, 35, 0, 4158]) from by decide +kernel) (show HS (hpI h1 93 27 0) from hs_h1) rfl (by decide) rfl ?_
  exact e_retI (show pAt 169 19 = some (19, .ireturn, 1, []) from by decide +kernel) rfl vc

theorem w_mmov0 {X : Scr} {dp : Nat} {h : Hp} {Q : Option Value → Hp → Prop} (c : Int32) (hs : HS h)
    (vc : Ends X dp 112 0 [.ref 93, .int c] [] h (fun rv h1 => ∃ r2, rv = some (.int r2) ∧ HS h1 ∧ ((condB .ne r2 0 = true → Ends X dp 139 0 [.ref 93, .int c] [] h1 (fun rv h5 => ∃ r6, rv = some (.int r6) ∧ HS h5 ∧ ((condB .eq r6 0 = true → (inB c 7 = true ∧ Ends X (dp + 1) 176 33 [.ref 93, .int c, .int (h5.2.1 96 c.toNatClampNeg), .int 0, .int 0] [] h5 Q)) ∧ (condB .eq r6 0 = false → Q (some (.int (-3))) h5)))) ∧ (condB .ne r2 0 = false → Q (some (.int (-1))) h1)))) :
    Ends X (dp + 1) 176 0 [.ref 93, .int c, .retAddr 0, .retAddr 0, .retAddr 0] [] h Q := by
  have ra : ∀ {a : Nat}, a < 1000 → a ≤ OLDB := fun h => by have := OLDB_eq; omega
  refine e_aload_n (show pAt 176 0 = some (0, .aload_n 0, 1, []) from by decide +kernel) rfl (ra (by decide)) ?_
  refine e_iload_n (show pAt 176 1 = some (1, .iload_n 1, 1, []) from by decide +kernel) rfl ?_
  refine Ends.call (show pAt 176 2 = some (2, .invokevirtual 210, 3, [112, 2, 0, 0, 5089, 5091, 55]) from by decide +kernel) (isRet_none rfl) rfl (call_this (show HS h from hs) rfl rfl (by decide)) (Ends.mono vc ?_)
  rintro _ h1 ⟨r2, rfl, hs_h1, vc⟩
  refine e_if (t := 10) (show pAt 176 5 = some (5, .ifCond .ne 5, 3, []) from by decide +kernel) rfl (fun c4 => ?_) (fun c4 => ?_)
  · replace vc := vc.1 c4
    refine e_aload_n (show pAt 176 10 = some (10, .aload_n 0, 1, []) from by decide +kernel) rfl (ra (by decide)) ?_
    refine e_iload_n (show pAt 176 11 = some (11, .iload_n 1, 1, []) from by decide +kernel) rfl ?_
    refine Ends.call (show pAt 176 12 = some (12, .invokevirtual 291, 3, [139, 2, 0, 0, 5169, 5171, 70]) from by decide +kernel) (isRet_none rfl) rfl (call_this (show HS h1 from hs_h1) rfl rfl (by decide)) (Ends.mono vc ?_)
    rintro _ h5 ⟨r6, rfl, hs_h5, vc⟩
    refine e_if (t := 21) (show pAt 176 15 = some (15, .ifCond .eq 6, 3, []) from by decide +kernel) rfl (fun c8 => ?_) (fun c8 => ?_)
    · replace vc := vc.1 c8
      refine e_aload_n (show pAt 176 21 = some (21, .aload_n 0, 1, []) from by decide +kernel) rfl (ra (by decide)) ?_
      refine e_gR (show pAt 176 22 = some (22, .getfield 26, 3, [7, 5, 0, 4128]) from by decide +kernel) (show HS h5 from hs_h5) rfl (by decide) (hs_ref (show HS h5 from hs_h5) rfl) ?_
      refine e_iload_n (show pAt 176 25 = some (25, .iload_n 1, 1, []) from by decide +kernel) rfl ?_
      obtain ⟨c9, vc⟩ := vc
      refine e_aldv (v := h5.2.1 96 c.toNatClampNeg) (show pAt 176 26 = some (26, .iaload, 1, []) from by decide +kernel) (show HS h5 from hs_h5) (by decide) c9 rfl ?_
      refine e_istore_n (show pAt 176 27 = some (27, .istore_n 2, 1, []) from by decide +kernel) ⟨Nat.le_of_ble_eq_true rfl, rfl⟩ rfl ?_
      refine e_iconst (c := 0) (show pAt 176 28 = some (28, .iconst 0, 1, []) from by decide +kernel) (by decide) ?_
      refine e_istore_n (show pAt 176 29 = some (29, .istore_n 3, 1, []) from by decide +kernel) ⟨Nat.le_of_ble_eq_true rfl, rfl⟩ rfl ?_
      refine e_iconst (c := 0) (show pAt 176 30 = some (30, .iconst 0, 1, []) from by decide +kernel) (by decide) ?_
      refine e_istore (show pAt 176 31 = some (31, .istore 4, 2, []) from by decide +kernel) ⟨Nat.le_of_ble_eq_true rfl, rfl⟩ rfl ?_
      exact vc
    · replace vc := vc.2 c8
      refine e_bipush (c := (-3)) (show pAt 176 18 = some (18, .bipush (-3), 2, []) from by decide +kernel) (by decide) ?_
      exact e_retI (show pAt 176 20 = some (20, .ireturn, 1, []) from by decide +kernel) rfl vc
  · replace vc := vc.2 c4
    refine e_iconst (c := (-1)) (show pAt 176 8 = some (8, .iconst (-1), 1, []) from by decide +kernel) (by decide) ?_
    exact e_retI (show pAt 176 9 = some (9, .ireturn, 1, []) from by decide +kernel) rfl vc

theorem w_mmov1 {X : Scr} {dp : Nat} {h : Hp} {Q : Option Value → Hp → Prop} (c : Int32) (w : Int32) (s : Int32) (l : Int32) (hs : HS h)
    (vc : ((condB .ge l 7 = true → (inB c 7 = true ∧ Q (some (.int s)) (hpI h 96 c.toNatClampNeg w))) ∧ (condB .ge l 7 = false → (inB c 7 = true ∧ Ends X dp 157 0 [.ref 93, .retAddr 0, .retAddr 0, .retAddr 0, .retAddr 0, .retAddr 0] [] (hpI h 96 c.toNatClampNeg l) (fun rv h4 => ∃ r5, rv = some (.int r5) ∧ HS h4 ∧ ((condB .ne r5 (h4.2.1 93 41) = true → Ends X (dp + 1) 176 33 [.ref 93, .int c, .int w, .int (s ||| 0), .int (l + 1)] [] h4 Q) ∧ (condB .ne r5 (h4.2.1 93 41) = false → Ends X (dp + 1) 176 33 [.ref 93, .int c, .int w, .int (s ||| (1 <<< (l &&& 31))), .int (l + 1)] [] h4 Q))))))) :
    Ends X (dp + 1) 176 33 [.ref 93, .int c, .int w, .int s, .int l] [] h Q := by
  have ra : ∀ {a : Nat}, a < 1000 → a ≤ OLDB := fun h => by have := OLDB_eq; omega
  refine e_iload (show pAt 176 33 = some (33, .iload 4, 2, []) from by decide +kernel) rfl ?_
  refine e_bipush (c := 7) (show pAt 176 35 = some (35, .bipush 7, 2, []) from by decide +kernel) (by decide) ?_
  refine e_icmp (t := 76) (show pAt 176 37 = some (37, .if_icmp .ge 39, 3, []) from by decide +kernel) rfl (fun c1 => ?_) (fun c1 => ?_)
  · replace vc := vc.1 c1
    refine e_aload_n (show pAt 176 76 = some (76, .aload_n 0, 1, []) from by decide +kernel) rfl (ra (by decide)) ?_
    refine e_gR (show pAt 176 77 = some (77, .getfield 26, 3, [7, 5, 0, 4128]) from by decide +kernel) (show HS h from hs) rfl (by decide) (hs_ref (show HS h from hs) rfl) ?_
    refine e_iload_n (show pAt 176 80 = some (80, .iload_n 1, 1, []) from by decide +kernel) rfl ?_
    refine e_iload_n (show pAt 176 81 = some (81, .iload_n 2, 1, []) from by decide +kernel) rfl ?_
    obtain ⟨c2, vc⟩ := vc
    refine e_ast (show pAt 176 82 = some (82, .iastore, 1, []) from by decide +kernel) (show HS h from hs) (by decide) c2 ?_
    refine e_iload_n (show pAt 176 83 = some (83, .iload_n 3, 1, []) from by decide +kernel) rfl ?_
    exact e_retI (show pAt 176 84 = some (84, .ireturn, 1, []) from by decide +kernel) rfl vc
  · replace vc := vc.2 c1
    refine e_aload_n (show pAt 176 40 = some (40, .aload_n 0, 1, []) from by decide +kernel) rfl (ra (by decide)) ?_
    refine e_gR (show pAt 176 41 = some (41, .getfield 26, 3, [7, 5, 0, 4128]) from by decide +kernel) (show HS h from hs) rfl (by decide) (hs_ref (show HS h from hs) rfl) ?_
    refine e_iload_n (show pAt 176 44 = some (44, .iload_n 1, 1, []) from by decide +kernel) rfl ?_
    refine e_iload (show pAt 176 45 = some (45, .iload 4, 2, []) from by decide +kernel) rfl ?_
    obtain ⟨c3, vc⟩ := vc
    refine e_ast (show pAt 176 47 = some (47, .iastore, 1, []) from by decide +kernel) (show HS h from hs) (by decide) c3 ?_
    refine e_iload_n (show pAt 176 48 = some (48, .iload_n 3, 1, []) from by decide +kernel) rfl ?_
    refine e_aload_n (show pAt 176 49 = some (49, .aload_n 0, 1, []) from by decide +kernel) rfl (ra (by decide)) ?_
    refine Ends.call (show pAt 176 50 = some (50, .invokevirtual 333, 3, [157, 1, 0, 0, 6009, 6011, 88]) from by decide +kernel) (isRet_none rfl) rfl (call_this (show HS (hpI h 96 c.toNatClampNeg l) from hs) rfl rfl (by decide)) (Ends.mono vc ?_)
    rintro _ h4 ⟨r5, rfl, hs_h4, vc⟩
    refine e_aload_n (show pAt 176 53 = some (53, .aload_n 0, 1, []) from by decide +kernel) rfl (ra (by decide)) ?_
    refine e_gIv (v := h4.2.1 93 41) (show pAt 176 54 = some (54, .getfield 136, 3, [7, 41, 0, 4164]) from by decide +kernel) (show HS h4 from hs_h4) rfl (by decide) rfl ?_
    refine e_icmp (t := 67) (show pAt 176 57 = some (57, .if_icmp .ne 10, 3, []) from by decide +kernel) rfl (fun c7 => ?_) (fun c7 => ?_)
    · replace vc := vc.1 c7
      refine e_iconst (c := 0) (show pAt 176 67 = some (67, .iconst 0, 1, []) from by decide +kernel) (by decide) ?_
      refine e_ior (show pAt 176 68 = some (68, .ior, 1, []) from by decide +kernel) ?_
      refine e_istore_n (show pAt 176 69 = some (69, .istore_n 3, 1, []) from by decide +kernel) ⟨Nat.le_of_ble_eq_true rfl, rfl⟩ rfl ?_
      refine e_iinc (c := 1) (show pAt 176 70 = some (70, .iinc 4 1, 3, []) from by decide +kernel) rfl rfl (by decide) rfl ?_
      refine e_goto (t := 33) (show pAt 176 73 = some (73, .goto (-40), 3, []) from by decide +kernel) rfl ?_
      exact vc
    · replace vc := vc.2 c7
      refine e_iconst (c := 1) (show pAt 176 60 = some (60, .iconst 1, 1, []) from by decide +kernel) (by decide) ?_
      refine e_iload (show pAt 176 61 = some (61, .iload 4, 2, []) from by decide +kernel) rfl ?_
      refine e_ishl (show pAt 176 63 = some (63, .ishl, 1, []) from by decide +kernel) ?_
      refine e_goto (t := 68) (show pAt 176 64 = some (64, .goto 4, 3, []) from by decide +kernel) rfl ?_
      refine e_ior (show pAt 176 68 = some (68, .ior, 1, []) from by decide +kernel) ?_
      refine e_istore_n (show pAt 176 69 = some (69, .istore_n 3, 1, []) from by decide +kernel) ⟨Nat.le_of_ble_eq_true rfl, rfl⟩ rfl ?_
      refine e_iinc (c := 1) (show pAt 176 70 = some (70, .iinc 4 1, 3, []) from by decide +kernel) rfl rfl (by decide) rfl ?_
      refine e_goto (t := 33) (show pAt 176 73 = some (73, .goto (-40), 3, []) from by decide +kernel) rfl ?_
      exact vc

theorem w_modd0 {X : Scr} {dp : Nat} {h : Hp} {Q : Option Value → Hp → Prop} (p : Int32) (c : Int32) (a : Int32) (hs : HS h)
    (vc : Ends X dp 112 0 [.ref 93, .int p] [] h (fun rv h1 => ∃ r2, rv = some (.int r2) ∧ HS h1 ∧ ((condB .eq r2 0 = true → Q (some (.long (-9223372036854775808))) h1) ∧ (condB .eq r2 0 = false → Ends X dp 112 0 [.ref 93, .int c] [] h1 (fun rv h5 => ∃ r6, rv = some (.int r6) ∧ HS h5 ∧ ((condB .eq r6 0 = true → Q (some (.long (-9223372036854775808))) h5) ∧ (condB .eq r6 0 = false → Ends X dp 109 0 [.ref 93, .int a, .int 0, .int 1] [] h5 (fun rv h9 => ∃ r10, rv = some (.int r10) ∧ HS h9 ∧ ((condB .eq r10 0 = true → Q (some (.long (-9223372036854775808))) h9) ∧ (condB .eq r10 0 = false → Ends X dp 139 0 [.ref 93, .int p] [] h9 (fun rv h13 => ∃ r14, rv = some (.int r14) ∧ HS h13 ∧ ((condB .eq r14 0 = true → Q (some (.long (-9223372036854775808))) h13) ∧ (condB .eq r14 0 = false → Ends X dp 139 0 [.ref 93, .int c] [] h13 (fun rv h17 => ∃ r18, rv = some (.int r18) ∧ HS h17 ∧ ((condB .eq r18 0 = true → (inB c 7 = true ∧ Ends X (dp + 1) 179 60 [.ref 93, .int p, .int c, .int a, .int (h17.2.1 96 c.toNatClampNeg), .int 0, .int 0] [] h17 Q)) ∧ (condB .eq r18 0 = false → Q (some (.long (-9223372036854775808))) h17)))))))))))))))) :
    Ends X (dp + 1) 179 0 [.ref 93, .int p, .int c, .int a, .retAddr 0, .retAddr 0, .retAddr 0] [] h Q := by
  have ra : ∀ {a : Nat}, a < 1000 → a ≤ OLDB := fun h => by have := OLDB_eq; omega
  refine e_aload_n (show pAt 179 0 = some (0, .aload_n 0, 1, []) from by decide +kernel) rfl (ra (by decide)) ?_
  refine e_iload_n (show pAt 179 1 = some (1, .iload_n 1, 1, []) from by decide +kernel) rfl ?_
  refine Ends.call (show pAt 179 2 = some (2, .invokevirtual 210, 3, [112, 2, 0, 0, 5089, 5091, 55]) from by decide +kernel) (isRet_none rfl) rfl (call_this (show HS h from hs) rfl rfl (by decide)) (Ends.mono vc ?_)
  rintro _ h1 ⟨r2, rfl, hs_h1, vc⟩
  refine e_if (t := 42) (show pAt 179 5 = some (5, .ifCond .eq 37, 3, []) from by decide +kernel) rfl (fun c4 => ?_) (fun c4 => ?_)
  · replace vc := vc.1 c4
    refine e_ldc2 (c := (-9223372036854775808)) (show pAt 179 42 = some (42, .ldc2_w 360, 3, [9223372036854775808, 6113]) from by decide +kernel) (by decide) ?_
    exact e_retL (show pAt 179 45 = some (45, .lreturn, 1, []) from by decide +kernel) rfl vc
  · replace vc := vc.2 c4
    refine e_aload_n (show pAt 179 8 = some (8, .aload_n 0, 1, []) from by decide +kernel) rfl (ra (by decide)) ?_
    refine e_iload_n (show pAt 179 9 = some (9, .iload_n 2, 1, []) from by decide +kernel) rfl ?_
    refine Ends.call (show pAt 179 10 = some (10, .invokevirtual 210, 3, [112, 2, 0, 0, 5089, 5091, 55]) from by decide +kernel) (isRet_none rfl) rfl (call_this (show HS h1 from hs_h1) rfl rfl (by decide)) (Ends.mono vc ?_)
    rintro _ h5 ⟨r6, rfl, hs_h5, vc⟩
    refine e_if (t := 42) (show pAt 179 13 = some (13, .ifCond .eq 29, 3, []) from by decide +kernel) rfl (fun c8 => ?_) (fun c8 => ?_)
    · replace vc := vc.1 c8
      refine e_ldc2 (c := (-9223372036854775808)) (show pAt 179 42 = some (42, .ldc2_w 360, 3, [9223372036854775808, 6113]) from by decide +kernel) (by decide) ?_
      exact e_retL (show pAt 179 45 = some (45, .lreturn, 1, []) from by decide +kernel) rfl vc
    · replace vc := vc.2 c8
      refine e_aload_n (show pAt 179 16 = some (16, .aload_n 0, 1, []) from by decide +kernel) rfl (ra (by decide)) ?_
      refine e_iload_n (show pAt 179 17 = some (17, .iload_n 3, 1, []) from by decide +kernel) rfl ?_
      refine e_iconst (c := 0) (show pAt 179 18 = some (18, .iconst 0, 1, []) from by decide +kernel) (by decide) ?_
      refine e_iconst (c := 1) (show pAt 179 19 = some (19, .iconst 1, 1, []) from by decide +kernel) (by decide) ?_
      refine Ends.call (show pAt 179 20 = some (20, .invokevirtual 206, 3, [109, 4, 0, 0, 5081, 5083, 54]) from by decide +kernel) (isRet_none rfl) rfl (call_this (show HS h5 from hs_h5) rfl rfl (by decide)) (Ends.mono vc ?_)
      rintro _ h9 ⟨r10, rfl, hs_h9, vc⟩
      refine e_if (t := 42) (show pAt 179 23 = some (23, .ifCond .eq 19, 3, []) from by decide +kernel) rfl (fun c12 => ?_) (fun c12 => ?_)
      · replace vc := vc.1 c12
        refine e_ldc2 (c := (-9223372036854775808)) (show pAt 179 42 = some (42, .ldc2_w 360, 3, [9223372036854775808, 6113]) from by decide +kernel) (by decide) ?_
        exact e_retL (show pAt 179 45 = some (45, .lreturn, 1, []) from by decide +kernel) rfl vc
      · replace vc := vc.2 c12
        refine e_aload_n (show pAt 179 26 = some (26, .aload_n 0, 1, []) from by decide +kernel) rfl (ra (by decide)) ?_
        refine e_iload_n (show pAt 179 27 = some (27, .iload_n 1, 1, []) from by decide +kernel) rfl ?_
        refine Ends.call (show pAt 179 28 = some (28, .invokevirtual 291, 3, [139, 2, 0, 0, 5169, 5171, 70]) from by decide +kernel) (isRet_none rfl) rfl (call_this (show HS h9 from hs_h9) rfl rfl (by decide)) (Ends.mono vc ?_)
        rintro _ h13 ⟨r14, rfl, hs_h13, vc⟩
        refine e_if (t := 42) (show pAt 179 31 = some (31, .ifCond .eq 11, 3, []) from by decide +kernel) rfl (fun c16 => ?_) (fun c16 => ?_)
        · replace vc := vc.1 c16
          refine e_ldc2 (c := (-9223372036854775808)) (show pAt 179 42 = some (42, .ldc2_w 360, 3, [9223372036854775808, 6113]) from by decide +kernel) (by decide) ?_
          exact e_retL (show pAt 179 45 = some (45, .lreturn, 1, []) from by decide +kernel) rfl vc
        · replace vc := vc.2 c16
          refine e_aload_n (show pAt 179 34 = some (34, .aload_n 0, 1, []) from by decide +kernel) rfl (ra (by decide)) ?_
          refine e_iload_n (show pAt 179 35 = some (35, .iload_n 2, 1, []) from by decide +kernel) rfl ?_
          refine Ends.call (show pAt 179 36 = some (36, .invokevirtual 291, 3, [139, 2, 0, 0, 5169, 5171, 70]) from by decide +kernel) (isRet_none rfl) rfl (call_this (show HS h13 from hs_h13) rfl rfl (by decide)) (Ends.mono vc ?_)
          rintro _ h17 ⟨r18, rfl, hs_h17, vc⟩
          refine e_if (t := 46) (show pAt 179 39 = some (39, .ifCond .eq 7, 3, []) from by decide +kernel) rfl (fun c20 => ?_) (fun c20 => ?_)
          · replace vc := vc.1 c20
            refine e_aload_n (show pAt 179 46 = some (46, .aload_n 0, 1, []) from by decide +kernel) rfl (ra (by decide)) ?_
            refine e_gR (show pAt 179 47 = some (47, .getfield 26, 3, [7, 5, 0, 4128]) from by decide +kernel) (show HS h17 from hs_h17) rfl (by decide) (hs_ref (show HS h17 from hs_h17) rfl) ?_
            refine e_iload_n (show pAt 179 50 = some (50, .iload_n 2, 1, []) from by decide +kernel) rfl ?_
            obtain ⟨c21, vc⟩ := vc
            refine e_aldv (v := h17.2.1 96 c.toNatClampNeg) (show pAt 179 51 = some (51, .iaload, 1, []) from by decide +kernel) (show HS h17 from hs_h17) (by decide) c21 rfl ?_
            refine e_istore (show pAt 179 52 = some (52, .istore 4, 2, []) from by decide +kernel) ⟨Nat.le_of_ble_eq_true rfl, rfl⟩ rfl ?_
            refine e_iconst (c := 0) (show pAt 179 54 = some (54, .iconst 0, 1, []) from by decide +kernel) (by decide) ?_
            refine e_istore (show pAt 179 55 = some (55, .istore 5, 2, []) from by decide +kernel) ⟨Nat.le_of_ble_eq_true rfl, rfl⟩ rfl ?_
            refine e_iconst (c := 0) (show pAt 179 57 = some (57, .iconst 0, 1, []) from by decide +kernel) (by decide) ?_
            refine e_istore (show pAt 179 58 = some (58, .istore 6, 2, []) from by decide +kernel) ⟨Nat.le_of_ble_eq_true rfl, rfl⟩ rfl ?_
            exact vc
          · replace vc := vc.2 c20
            refine e_ldc2 (c := (-9223372036854775808)) (show pAt 179 42 = some (42, .ldc2_w 360, 3, [9223372036854775808, 6113]) from by decide +kernel) (by decide) ?_
            exact e_retL (show pAt 179 45 = some (45, .lreturn, 1, []) from by decide +kernel) rfl vc

theorem w_modd1 {X : Scr} {dp : Nat} {h : Hp} {Q : Option Value → Hp → Prop} (p : Int32) (c : Int32) (a : Int32) (w : Int32) (n : Int32) (l : Int32) (hs : HS h)
    (vc : ((condB .ge l 7 = true → (inB c 7 = true ∧ Ends X dp 178 0 [.ref 93, .int n, .int 7, .int a, .retAddr 0] [] (hpI h 96 c.toNatClampNeg w) (fun rv h3 => ∃ r4, rv = some (.long r4) ∧ HS h3 ∧ Q (some (.long r4)) h3))) ∧ (condB .ge l 7 = false → (inB c 7 = true ∧ Ends X dp 157 0 [.ref 93, .retAddr 0, .retAddr 0, .retAddr 0, .retAddr 0, .retAddr 0] [] (hpI h 96 c.toNatClampNeg l) (fun rv h7 => ∃ r8, rv = some (.int r8) ∧ HS h7 ∧ Ends X dp 110 0 [.ref 93, .int r8, .int p] [] h7 (fun rv h10 => ∃ r11, rv = some (.int r11) ∧ HS h10 ∧ ((condB .eq r11 0 = true → Ends X (dp + 1) 179 60 [.ref 93, .int p, .int c, .int a, .int w, .int (n + 0), .int (l + 1)] [] h10 Q) ∧ (condB .eq r11 0 = false → Ends X (dp + 1) 179 60 [.ref 93, .int p, .int c, .int a, .int w, .int (n + 1), .int (l + 1)] [] h10 Q)))))))) :
    Ends X (dp + 1) 179 60 [.ref 93, .int p, .int c, .int a, .int w, .int n, .int l] [] h Q := by
  have ra : ∀ {a : Nat}, a < 1000 → a ≤ OLDB := fun h => by have := OLDB_eq; omega
  refine e_iload (show pAt 179 60 = some (60, .iload 6, 2, []) from by decide +kernel) rfl ?_
  refine e_bipush (c := 7) (show pAt 179 62 = some (62, .bipush 7, 2, []) from by decide +kernel) (by decide) ?_
  refine e_icmp (t := 103) (show pAt 179 64 = some (64, .if_icmp .ge 39, 3, []) from by decide +kernel) rfl (fun c1 => ?_) (fun c1 => ?_)
  · replace vc := vc.1 c1
    refine e_aload_n (show pAt 179 103 = some (103, .aload_n 0, 1, []) from by decide +kernel) rfl (ra (by decide)) ?_
    refine e_gR (show pAt 179 104 = some (104, .getfield 26, 3, [7, 5, 0, 4128]) from by decide +kernel) (show HS h from hs) rfl (by decide) (hs_ref (show HS h from hs) rfl) ?_
    refine e_iload_n (show pAt 179 107 = some (107, .iload_n 2, 1, []) from by decide +kernel) rfl ?_
    refine e_iload (show pAt 179 108 = some (108, .iload 4, 2, []) from by decide +kernel) rfl ?_
    obtain ⟨c2, vc⟩ := vc
    refine e_ast (show pAt 179 110 = some (110, .iastore, 1, []) from by decide +kernel) (show HS h from hs) (by decide) c2 ?_
    refine e_aload_n (show pAt 179 111 = some (111, .aload_n 0, 1, []) from by decide +kernel) rfl (ra (by decide)) ?_
    refine e_iload (show pAt 179 112 = some (112, .iload 5, 2, []) from by decide +kernel) rfl ?_
    refine e_bipush (c := 7) (show pAt 179 114 = some (114, .bipush 7, 2, []) from by decide +kernel) (by decide) ?_
    refine e_iload_n (show pAt 179 116 = some (116, .iload_n 3, 1, []) from by decide +kernel) rfl ?_
    refine Ends.call (show pAt 179 117 = some (117, .invokevirtual 362, 3, [178, 4, 0, 0, 6114, 6116, 101]) from by decide +kernel) (isRet_none rfl) rfl (call_this (show HS (hpI h 96 c.toNatClampNeg w) from hs) rfl rfl (by decide)) (Ends.mono vc ?_)
    rintro _ h3 ⟨r4, rfl, hs_h3, vc⟩
    exact e_retL (show pAt 179 120 = some (120, .lreturn, 1, []) from by decide +kernel) rfl vc
  · replace vc := vc.2 c1
    refine e_aload_n (show pAt 179 67 = some (67, .aload_n 0, 1, []) from by decide +kernel) rfl (ra (by decide)) ?_
    refine e_gR (show pAt 179 68 = some (68, .getfield 26, 3, [7, 5, 0, 4128]) from by decide +kernel) (show HS h from hs) rfl (by decide) (hs_ref (show HS h from hs) rfl) ?_
    refine e_iload_n (show pAt 179 71 = some (71, .iload_n 2, 1, []) from by decide +kernel) rfl ?_
    refine e_iload (show pAt 179 72 = some (72, .iload 6, 2, []) from by decide +kernel) rfl ?_
    obtain ⟨c6, vc⟩ := vc
    refine e_ast (show pAt 179 74 = some (74, .iastore, 1, []) from by decide +kernel) (show HS h from hs) (by decide) c6 ?_
    refine e_iload (show pAt 179 75 = some (75, .iload 5, 2, []) from by decide +kernel) rfl ?_
    refine e_aload_n (show pAt 179 77 = some (77, .aload_n 0, 1, []) from by decide +kernel) rfl (ra (by decide)) ?_
    refine e_aload_n (show pAt 179 78 = some (78, .aload_n 0, 1, []) from by decide +kernel) rfl (ra (by decide)) ?_
    refine Ends.call (show pAt 179 79 = some (79, .invokevirtual 333, 3, [157, 1, 0, 0, 6009, 6011, 88]) from by decide +kernel) (isRet_none rfl) rfl (call_this (show HS (hpI h 96 c.toNatClampNeg l) from hs) rfl rfl (by decide)) (Ends.mono vc ?_)
    rintro _ h7 ⟨r8, rfl, hs_h7, vc⟩
    refine e_iload_n (show pAt 179 82 = some (82, .iload_n 1, 1, []) from by decide +kernel) rfl ?_
    refine Ends.call (show pAt 179 83 = some (83, .invokevirtual 274, 3, [110, 3, 0, 0, 5173, 5175, 71]) from by decide +kernel) (isRet_none rfl) rfl (call_this (show HS h7 from hs_h7) rfl rfl (by decide)) (Ends.mono vc ?_)
    rintro _ h10 ⟨r11, rfl, hs_h10, vc⟩
    refine e_if (t := 93) (show pAt 179 86 = some (86, .ifCond .eq 7, 3, []) from by decide +kernel) rfl (fun c13 => ?_) (fun c13 => ?_)
    · replace vc := vc.1 c13
      refine e_iconst (c := 0) (show pAt 179 93 = some (93, .iconst 0, 1, []) from by decide +kernel) (by decide) ?_
      refine e_iadd (show pAt 179 94 = some (94, .iadd, 1, []) from by decide +kernel) ?_
      refine e_istore (show pAt 179 95 = some (95, .istore 5, 2, []) from by decide +kernel) ⟨Nat.le_of_ble_eq_true rfl, rfl⟩ rfl ?_
      refine e_iinc (c := 1) (show pAt 179 97 = some (97, .iinc 6 1, 3, []) from by decide +kernel) rfl rfl (by decide) rfl ?_
      refine e_goto (t := 60) (show pAt 179 100 = some (100, .goto (-40), 3, []) from by decide +kernel) rfl ?_
      exact vc
    · replace vc := vc.2 c13
      refine e_iconst (c := 1) (show pAt 179 89 = some (89, .iconst 1, 1, []) from by decide +kernel) (by decide) ?_
      refine e_goto (t := 94) (show pAt 179 90 = some (90, .goto 4, 3, []) from by decide +kernel) rfl ?_
      refine e_iadd (show pAt 179 94 = some (94, .iadd, 1, []) from by decide +kernel) ?_
      refine e_istore (show pAt 179 95 = some (95, .istore 5, 2, []) from by decide +kernel) ⟨Nat.le_of_ble_eq_true rfl, rfl⟩ rfl ?_
      refine e_iinc (c := 1) (show pAt 179 97 = some (97, .iinc 6 1, 3, []) from by decide +kernel) rfl rfl (by decide) rfl ?_
      refine e_goto (t := 60) (show pAt 179 100 = some (100, .goto (-40), 3, []) from by decide +kernel) rfl ?_
      exact vc

theorem w_mmea0 {X : Scr} {dp : Nat} {h : Hp} {Q : Option Value → Hp → Prop} (n : Int32) (a : Int32) (hs : HS h)
    (vc : Ends X dp 109 0 [.ref 93, .int n, .int 1, .int 30] [] h (fun rv h1 => ∃ r2, rv = some (.int r2) ∧ HS h1 ∧ ((condB .eq r2 0 = true → Q (some (.long (-9223372036854775808))) h1) ∧ (condB .eq r2 0 = false → Ends X dp 109 0 [.ref 93, .int a, .int 0, .int 1] [] h1 (fun rv h5 => ∃ r6, rv = some (.int r6) ∧ HS h5 ∧ ((condB .ne r6 0 = true → Ends X dp 160 0 [.ref 93] [] h5 (fun rv h9 => rv = none ∧ HS h9 ∧ Ends X (dp + 1) 180 34 [.ref 93, .int n, .int a, .int 0, .int 0, .retAddr 0] [] h9 Q)) ∧ (condB .ne r6 0 = false → Q (some (.long (-9223372036854775808))) h5))))))) :
    Ends X (dp + 1) 180 0 [.ref 93, .int n, .int a, .retAddr 0, .retAddr 0, .retAddr 0] [] h Q := by
  have ra : ∀ {a : Nat}, a < 1000 → a ≤ OLDB := fun h => by have := OLDB_eq; omega
  refine e_aload_n (show pAt 180 0 = some (0, .aload_n 0, 1, []) from by decide +kernel) rfl (ra (by decide)) ?_
  refine e_iload_n (show pAt 180 1 = some (1, .iload_n 1, 1, []) from by decide +kernel) rfl ?_
  refine e_iconst (c := 1) (show pAt 180 2 = some (2, .iconst 1, 1, []) from by decide +kernel) (by decide) ?_
  refine e_bipush (c := 30) (show pAt 180 3 = some (3, .bipush 30, 2, []) from by decide +kernel) (by decide) ?_
  refine Ends.call (show pAt 180 5 = some (5, .invokevirtual 206, 3, [109, 4, 0, 0, 5081, 5083, 54]) from by decide +kernel) (isRet_none rfl) rfl (call_this (show HS h from hs) rfl rfl (by decide)) (Ends.mono vc ?_)
  rintro _ h1 ⟨r2, rfl, hs_h1, vc⟩
  refine e_if (t := 21) (show pAt 180 8 = some (8, .ifCond .eq 13, 3, []) from by decide +kernel) rfl (fun c4 => ?_) (fun c4 => ?_)
  · replace vc := vc.1 c4
    refine e_ldc2 (c := (-9223372036854775808)) (show pAt 180 21 = some (21, .ldc2_w 360, 3, [9223372036854775808, 6113]) from by decide +kernel) (by decide) ?_
    exact e_retL (show pAt 180 24 = some (24, .lreturn, 1, []) from by decide +kernel) rfl vc
  · replace vc := vc.2 c4
    refine e_aload_n (show pAt 180 11 = some (11, .aload_n 0, 1, []) from by decide +kernel) rfl (ra (by decide)) ?_
    refine e_iload_n (show pAt 180 12 = some (12, .iload_n 2, 1, []) from by decide +kernel) rfl ?_
    refine e_iconst (c := 0) (show pAt 180 13 = some (13, .iconst 0, 1, []) from by decide +kernel) (by decide) ?_
    refine e_iconst (c := 1) (show pAt 180 14 = some (14, .iconst 1, 1, []) from by decide +kernel) (by decide) ?_
    refine Ends.call (show pAt 180 15 = some (15, .invokevirtual 206, 3, [109, 4, 0, 0, 5081, 5083, 54]) from by decide +kernel) (isRet_none rfl) rfl (call_this (show HS h1 from hs_h1) rfl rfl (by decide)) (Ends.mono vc ?_)
    rintro _ h5 ⟨r6, rfl, hs_h5, vc⟩
    refine e_if (t := 25) (show pAt 180 18 = some (18, .ifCond .ne 7, 3, []) from by decide +kernel) rfl (fun c8 => ?_) (fun c8 => ?_)
    · replace vc := vc.1 c8
      refine e_aload_n (show pAt 180 25 = some (25, .aload_n 0, 1, []) from by decide +kernel) rfl (ra (by decide)) ?_
      refine Ends.call (show pAt 180 26 = some (26, .invokevirtual 339, 3, [160, 1, 0, 0, 6041, 6043, 95]) from by decide +kernel) (isRet_none rfl) rfl (call_this (show HS h5 from hs_h5) rfl rfl (by decide)) (Ends.mono vc ?_)
      rintro _ h9 ⟨rfl, hs_h9, vc⟩
      refine e_iconst (c := 0) (show pAt 180 29 = some (29, .iconst 0, 1, []) from by decide +kernel) (by decide) ?_
      refine e_istore_n (show pAt 180 30 = some (30, .istore_n 3, 1, []) from by decide +kernel) ⟨Nat.le_of_ble_eq_true rfl, rfl⟩ rfl ?_
      refine e_iconst (c := 0) (show pAt 180 31 = some (31, .iconst 0, 1, []) from by decide +kernel) (by decide) ?_
      refine e_istore (show pAt 180 32 = some (32, .istore 4, 2, []) from by decide +kernel) ⟨Nat.le_of_ble_eq_true rfl, rfl⟩ rfl ?_
      exact vc
    · replace vc := vc.2 c8
      refine e_ldc2 (c := (-9223372036854775808)) (show pAt 180 21 = some (21, .ldc2_w 360, 3, [9223372036854775808, 6113]) from by decide +kernel) (by decide) ?_
      exact e_retL (show pAt 180 24 = some (24, .lreturn, 1, []) from by decide +kernel) rfl vc

theorem w_mmea1 {X : Scr} {dp : Nat} {h : Hp} {Q : Option Value → Hp → Prop} (n : Int32) (a : Int32) (s : Int32) (k : Int32) (x : Value) (hs : HS h)
    (vc : ((condB .ge k n = true → Ends X dp 161 0 [.ref 93] [] h (fun rv h2 => rv = none ∧ HS h2 ∧ Ends X dp 178 0 [.ref 93, .int s, .int n, .int a, .retAddr 0] [] h2 (fun rv h5 => ∃ r6, rv = some (.long r6) ∧ HS h5 ∧ Q (some (.long r6)) h5))) ∧ (condB .ge k n = false → Ends X dp 158 0 [.ref 93, .retAddr 0] [] h (fun rv h8 => ∃ r9, rv = some (.int r9) ∧ HS h8 ∧ Ends X dp 113 0 [.ref 93] [] h8 (fun rv h11 => ∃ r12, rv = some (.int r12) ∧ HS h11 ∧ Ends X dp 111 0 [.ref 93, .int (r12 &&& ((h11.2.1 93 2) ^^^ (-1))), .retAddr 0, .retAddr 0] [] h11 (fun rv h14 => ∃ r15, rv = some (.int r15) ∧ HS h14 ∧ Ends X (dp + 1) 180 34 [.ref 93, .int n, .int a, .int (s + r15), .int (k + 1), .int r9] [] h14 Q)))))) :
    Ends X (dp + 1) 180 34 [.ref 93, .int n, .int a, .int s, .int k, x] [] h Q := by
  have ra : ∀ {a : Nat}, a < 1000 → a ≤ OLDB := fun h => by have := OLDB_eq; omega
  refine e_iload (show pAt 180 34 = some (34, .iload 4, 2, []) from by decide +kernel) rfl ?_
  refine e_iload_n (show pAt 180 36 = some (36, .iload_n 1, 1, []) from by decide +kernel) rfl ?_
  refine e_icmp (t := 70) (show pAt 180 37 = some (37, .if_icmp .ge 33, 3, []) from by decide +kernel) rfl (fun c1 => ?_) (fun c1 => ?_)
  · replace vc := vc.1 c1
    refine e_aload_n (show pAt 180 70 = some (70, .aload_n 0, 1, []) from by decide +kernel) rfl (ra (by decide)) ?_
    refine Ends.call (show pAt 180 71 = some (71, .invokevirtual 345, 3, [161, 1, 0, 0, 6049, 6051, 97]) from by decide +kernel) (isRet_none rfl) rfl (call_this (show HS h from hs) rfl rfl (by decide)) (Ends.mono vc ?_)
    rintro _ h2 ⟨rfl, hs_h2, vc⟩
    refine e_aload_n (show pAt 180 74 = some (74, .aload_n 0, 1, []) from by decide +kernel) rfl (ra (by decide)) ?_
    refine e_iload_n (show pAt 180 75 = some (75, .iload_n 3, 1, []) from by decide +kernel) rfl ?_
    refine e_iload_n (show pAt 180 76 = some (76, .iload_n 1, 1, []) from by decide +kernel) rfl ?_
    refine e_iload_n (show pAt 180 77 = some (77, .iload_n 2, 1, []) from by decide +kernel) rfl ?_
    refine Ends.call (show pAt 180 78 = some (78, .invokevirtual 362, 3, [178, 4, 0, 0, 6114, 6116, 101]) from by decide +kernel) (isRet_none rfl) rfl (call_this (show HS h2 from hs_h2) rfl rfl (by decide)) (Ends.mono vc ?_)
    rintro _ h5 ⟨r6, rfl, hs_h5, vc⟩
    exact e_retL (show pAt 180 81 = some (81, .lreturn, 1, []) from by decide +kernel) rfl vc
  · replace vc := vc.2 c1
    refine e_aload_n (show pAt 180 40 = some (40, .aload_n 0, 1, []) from by decide +kernel) rfl (ra (by decide)) ?_
    refine Ends.call (show pAt 180 41 = some (41, .invokevirtual 336, 3, [158, 1, 0, 0, 6005, 6007, 87]) from by decide +kernel) (isRet_none rfl) rfl (call_this (show HS h from hs) rfl rfl (by decide)) (Ends.mono vc ?_)
    rintro _ h8 ⟨r9, rfl, hs_h8, vc⟩
    refine e_istore (show pAt 180 44 = some (44, .istore 5, 2, []) from by decide +kernel) ⟨Nat.le_of_ble_eq_true rfl, rfl⟩ rfl ?_
    refine e_iload_n (show pAt 180 46 = some (46, .iload_n 3, 1, []) from by decide +kernel) rfl ?_
    refine e_aload_n (show pAt 180 47 = some (47, .aload_n 0, 1, []) from by decide +kernel) rfl (ra (by decide)) ?_
    refine e_aload_n (show pAt 180 48 = some (48, .aload_n 0, 1, []) from by decide +kernel) rfl (ra (by decide)) ?_
    refine Ends.call (show pAt 180 49 = some (49, .invokevirtual 312, 3, [113, 1, 0, 0, 5237, 5239, 86]) from by decide +kernel) (isRet_none rfl) rfl (call_this (show HS h8 from hs_h8) rfl rfl (by decide)) (Ends.mono vc ?_)
    rintro _ h11 ⟨r12, rfl, hs_h11, vc⟩
    refine e_aload_n (show pAt 180 52 = some (52, .aload_n 0, 1, []) from by decide +kernel) rfl (ra (by decide)) ?_
    refine e_gIv (v := h11.2.1 93 2) (show pAt 180 53 = some (53, .getfield 16, 3, [7, 2, 0, 4125]) from by decide +kernel) (show HS h11 from hs_h11) rfl (by decide) rfl ?_
    refine e_iconst (c := (-1)) (show pAt 180 56 = some (56, .iconst (-1), 1, []) from by decide +kernel) (by decide) ?_
    refine e_ixor (show pAt 180 57 = some (57, .ixor, 1, []) from by decide +kernel) ?_
    refine e_iand (show pAt 180 58 = some (58, .iand, 1, []) from by decide +kernel) ?_
    refine Ends.call (show pAt 180 59 = some (59, .invokevirtual 342, 3, [111, 2, 0, 0, 6045, 6047, 96]) from by decide +kernel) (isRet_none rfl) rfl (call_this (show HS h11 from hs_h11) rfl rfl (by decide)) (Ends.mono vc ?_)
    rintro _ h14 ⟨r15, rfl, hs_h14, vc⟩
    refine e_iadd (show pAt 180 62 = some (62, .iadd, 1, []) from by decide +kernel) ?_
    refine e_istore_n (show pAt 180 63 = some (63, .istore_n 3, 1, []) from by decide +kernel) ⟨Nat.le_of_ble_eq_true rfl, rfl⟩ rfl ?_
    refine e_iinc (c := 1) (show pAt 180 64 = some (64, .iinc 4 1, 3, []) from by decide +kernel) rfl rfl (by decide) rfl ?_
    refine e_goto (t := 34) (show pAt 180 67 = some (67, .goto (-33), 3, []) from by decide +kernel) rfl ?_
    exact vc

theorem w_mlow {X : Scr} {dp : Nat} {h : Hp} {Q : Option Value → Hp → Prop} (a : Int32) (b : Int32) (p : Int32) (hs : HS h)
    (vc : Ends X dp 177 0 [.ref 93, .int a, .int b, .retAddr 0, .retAddr 0, .retAddr 0] [] h (fun rv h1 => ∃ r2, rv = some (.int r2) ∧ HS h1 ∧ ((condB .ne p 0 = true → (¬ r2 = 0 ∧ Q (some (.long ((b / r2).toInt64))) h1)) ∧ (condB .ne p 0 = false → (¬ r2 = 0 ∧ Q (some (.long ((a / r2).toInt64))) h1))))) :
    Ends X (dp + 1) 178 0 [.ref 93, .int a, .int b, .int p, .retAddr 0] [] h Q := by
  have ra : ∀ {a : Nat}, a < 1000 → a ≤ OLDB := fun h => by have := OLDB_eq; omega
  refine e_aload_n (show pAt 178 0 = some (0, .aload_n 0, 1, []) from by decide +kernel) rfl (ra (by decide)) ?_
  refine e_iload_n (show pAt 178 1 = some (1, .iload_n 1, 1, []) from by decide +kernel) rfl ?_
  refine e_iload_n (show pAt 178 2 = some (2, .iload_n 2, 1, []) from by decide +kernel) rfl ?_
  refine Ends.call (show pAt 178 3 = some (3, .invokevirtual 357, 3, [177, 3, 0, 0, 6118, 6120, 102]) from by decide +kernel) (isRet_none rfl) rfl (call_this (show HS h from hs) rfl rfl (by decide)) (Ends.mono vc ?_)
  rintro _ h1 ⟨r2, rfl, hs_h1, vc⟩
  refine e_istore (show pAt 178 6 = some (6, .istore 4, 2, []) from by decide +kernel) ⟨Nat.le_of_ble_eq_true rfl, rfl⟩ rfl ?_
  refine e_iload_n (show pAt 178 8 = some (8, .iload_n 3, 1, []) from by decide +kernel) rfl ?_
  refine e_if (t := 20) (show pAt 178 9 = some (9, .ifCond .ne 11, 3, []) from by decide +kernel) rfl (fun c4 => ?_) (fun c4 => ?_)
  · replace vc := vc.1 c4
    refine e_iload_n (show pAt 178 20 = some (20, .iload_n 2, 1, []) from by decide +kernel) rfl ?_
    refine e_iload (show pAt 178 21 = some (21, .iload 4, 2, []) from by decide +kernel) rfl ?_
    obtain ⟨c5, vc⟩ := vc
    refine e_idiv (show pAt 178 23 = some (23, .idiv, 1, []) from by decide +kernel) c5 ?_
    refine e_i2l (show pAt 178 24 = some (24, .i2l, 1, []) from by decide +kernel) ?_
    exact e_retL (show pAt 178 25 = some (25, .lreturn, 1, []) from by decide +kernel) rfl vc
  · replace vc := vc.2 c4
    refine e_iload_n (show pAt 178 12 = some (12, .iload_n 1, 1, []) from by decide +kernel) rfl ?_
    refine e_iload (show pAt 178 13 = some (13, .iload 4, 2, []) from by decide +kernel) rfl ?_
    obtain ⟨c6, vc⟩ := vc
    refine e_idiv (show pAt 178 15 = some (15, .idiv, 1, []) from by decide +kernel) c6 ?_
    refine e_i2l (show pAt 178 16 = some (16, .i2l, 1, []) from by decide +kernel) ?_
    refine e_goto (t := 25) (show pAt 178 17 = some (17, .goto 8, 3, []) from by decide +kernel) rfl ?_
    exact e_retL (show pAt 178 25 = some (25, .lreturn, 1, []) from by decide +kernel) rfl vc

theorem w_mthe0 {X : Scr} {dp : Nat} {h : Hp} {Q : Option Value → Hp → Prop} (s : Int32) (hs : HS h)
    (vc : Ends X dp 163 2 [.ref 93, .int s, .int 0] [] h Q) :
    Ends X dp 163 0 [.ref 93, .int s, .retAddr 0] [] h Q := by
  have ra : ∀ {a : Nat}, a < 1000 → a ≤ OLDB := fun h => by have := OLDB_eq; omega
  refine e_iconst (c := 0) (show pAt 163 0 = some (0, .iconst 0, 1, []) from by decide +kernel) (by decide) ?_
  refine e_istore_n (show pAt 163 1 = some (1, .istore_n 2, 1, []) from by decide +kernel) ⟨Nat.le_of_ble_eq_true rfl, rfl⟩ rfl ?_
  exact vc

theorem w_mthe1 {X : Scr} {dp : Nat} {h : Hp} {Q : Option Value → Hp → Prop} (s : Int32) (p : Int32) (hs : HS h)
    (vc : ((condB .ge p (h.2.1 93 0) = true → Q (some (.int (-5))) h) ∧ (condB .ge p (h.2.1 93 0) = false → ((condB .ne s (1 <<< (p &&& 31)) = true → Ends X dp 163 2 [.ref 93, .int s, .int (p + 1)] [] h Q) ∧ (condB .ne s (1 <<< (p &&& 31)) = false → Q (some (.int p)) h))))) :
    Ends X dp 163 2 [.ref 93, .int s, .int p] [] h Q := by
  have ra : ∀ {a : Nat}, a < 1000 → a ≤ OLDB := fun h => by have := OLDB_eq; omega
  refine e_iload_n (show pAt 163 2 = some (2, .iload_n 2, 1, []) from by decide +kernel) rfl ?_
  refine e_aload_n (show pAt 163 3 = some (3, .aload_n 0, 1, []) from by decide +kernel) rfl (ra (by decide)) ?_
  refine e_gIv (v := h.2.1 93 0) (show pAt 163 4 = some (4, .getfield 7, 3, [7, 0, 0, 4123]) from by decide +kernel) (show HS h from hs) rfl (by decide) rfl ?_
  refine e_icmp (t := 25) (show pAt 163 7 = some (7, .if_icmp .ge 18, 3, []) from by decide +kernel) rfl (fun c1 => ?_) (fun c1 => ?_)
  · replace vc := vc.1 c1
    refine e_bipush (c := (-5)) (show pAt 163 25 = some (25, .bipush (-5), 2, []) from by decide +kernel) (by decide) ?_
    exact e_retI (show pAt 163 27 = some (27, .ireturn, 1, []) from by decide +kernel) rfl vc
  · replace vc := vc.2 c1
    refine e_iload_n (show pAt 163 10 = some (10, .iload_n 1, 1, []) from by decide +kernel) rfl ?_
    refine e_iconst (c := 1) (show pAt 163 11 = some (11, .iconst 1, 1, []) from by decide +kernel) (by decide) ?_
    refine e_iload_n (show pAt 163 12 = some (12, .iload_n 2, 1, []) from by decide +kernel) rfl ?_
    refine e_ishl (show pAt 163 13 = some (13, .ishl, 1, []) from by decide +kernel) ?_
    refine e_icmp (t := 19) (show pAt 163 14 = some (14, .if_icmp .ne 5, 3, []) from by decide +kernel) rfl (fun c2 => ?_) (fun c2 => ?_)
    · replace vc := vc.1 c2
      refine e_iinc (c := 1) (show pAt 163 19 = some (19, .iinc 2 1, 3, []) from by decide +kernel) rfl rfl (by decide) rfl ?_
      refine e_goto (t := 2) (show pAt 163 22 = some (22, .goto (-20), 3, []) from by decide +kernel) rfl ?_
      exact vc
    · replace vc := vc.2 c2
      refine e_iload_n (show pAt 163 17 = some (17, .iload_n 2, 1, []) from by decide +kernel) rfl ?_
      exact e_retI (show pAt 163 18 = some (18, .ireturn, 1, []) from by decide +kernel) rfl vc

theorem w_mloo0 {X : Scr} {dp : Nat} {h : Hp} {Q : Option Value → Hp → Prop}  (hs : HS h)
    (vc : Ends X dp 160 0 [.ref 93] [] h (fun rv h1 => rv = none ∧ HS h1 ∧ Ends X (dp + 1) 182 9 [.ref 93, .int (-5), .int 0] [] h1 Q)) :
    Ends X (dp + 1) 182 0 [.ref 93, .retAddr 0, .retAddr 0] [] h Q := by
  have ra : ∀ {a : Nat}, a < 1000 → a ≤ OLDB := fun h => by have := OLDB_eq; omega
  refine e_aload_n (show pAt 182 0 = some (0, .aload_n 0, 1, []) from by decide +kernel) rfl (ra (by decide)) ?_
  refine Ends.call (show pAt 182 1 = some (1, .invokevirtual 339, 3, [160, 1, 0, 0, 6041, 6043, 95]) from by decide +kernel) (isRet_none rfl) rfl (call_this (show HS h from hs) rfl rfl (by decide)) (Ends.mono vc ?_)
  rintro _ h1 ⟨rfl, hs_h1, vc⟩
  refine e_bipush (c := (-5)) (show pAt 182 4 = some (4, .bipush (-5), 2, []) from by decide +kernel) (by decide) ?_
  refine e_istore_n (show pAt 182 6 = some (6, .istore_n 1, 1, []) from by decide +kernel) ⟨Nat.le_of_ble_eq_true rfl, rfl⟩ rfl ?_
  refine e_iconst (c := 0) (show pAt 182 7 = some (7, .iconst 0, 1, []) from by decide +kernel) (by decide) ?_
  refine e_istore_n (show pAt 182 8 = some (8, .istore_n 2, 1, []) from by decide +kernel) ⟨Nat.le_of_ble_eq_true rfl, rfl⟩ rfl ?_
  exact vc

theorem w_mloo1 {X : Scr} {dp : Nat} {h : Hp} {Q : Option Value → Hp → Prop} (f : Int32) (k : Int32) (hs : HS h)
    (vc : ((condB .ge k (h.2.1 93 42) = true → Ends X dp 161 0 [.ref 93] [] h (fun rv h2 => rv = none ∧ HS h2 ∧ Q (some (.int f)) h2)) ∧ (condB .ge k (h.2.1 93 42) = false → ((condB .ge f 0 = true → Ends X dp 161 0 [.ref 93] [] h (fun rv h6 => rv = none ∧ HS h6 ∧ Q (some (.int f)) h6)) ∧ (condB .ge f 0 = false → Ends X dp 158 0 [.ref 93, .retAddr 0] [] h (fun rv h9 => ∃ r10, rv = some (.int r10) ∧ HS h9 ∧ (inB k 12 = true ∧ ((condB .ne r10 (h9.2.1 114 k.toNatClampNeg) = true → Ends X (dp + 1) 182 9 [.ref 93, .int k, .int (k + 1)] [] h9 Q) ∧ (condB .ne r10 (h9.2.1 114 k.toNatClampNeg) = false → Ends X (dp + 1) 182 9 [.ref 93, .int (-5), .int (k + 1)] [] h9 Q))))))))) :
    Ends X (dp + 1) 182 9 [.ref 93, .int f, .int k] [] h Q := by
  have ra : ∀ {a : Nat}, a < 1000 → a ≤ OLDB := fun h => by have := OLDB_eq; omega
  refine e_iload_n (show pAt 182 9 = some (9, .iload_n 2, 1, []) from by decide +kernel) rfl ?_
  refine e_aload_n (show pAt 182 10 = some (10, .aload_n 0, 1, []) from by decide +kernel) rfl (ra (by decide)) ?_
  refine e_gIv (v := h.2.1 93 42) (show pAt 182 11 = some (11, .getfield 139, 3, [7, 42, 0, 4165]) from by decide +kernel) (show HS h from hs) rfl (by decide) rfl ?_
  refine e_icmp (t := 47) (show pAt 182 14 = some (14, .if_icmp .ge 33, 3, []) from by decide +kernel) rfl (fun c1 => ?_) (fun c1 => ?_)
  · replace vc := vc.1 c1
    refine e_aload_n (show pAt 182 47 = some (47, .aload_n 0, 1, []) from by decide +kernel) rfl (ra (by decide)) ?_
    refine Ends.call (show pAt 182 48 = some (48, .invokevirtual 345, 3, [161, 1, 0, 0, 6049, 6051, 97]) from by decide +kernel) (isRet_none rfl) rfl (call_this (show HS h from hs) rfl rfl (by decide)) (Ends.mono vc ?_)
    rintro _ h2 ⟨rfl, hs_h2, vc⟩
    refine e_iload_n (show pAt 182 51 = some (51, .iload_n 1, 1, []) from by decide +kernel) rfl ?_
    exact e_retI (show pAt 182 52 = some (52, .ireturn, 1, []) from by decide +kernel) rfl vc
  · replace vc := vc.2 c1
    refine e_iload_n (show pAt 182 17 = some (17, .iload_n 1, 1, []) from by decide +kernel) rfl ?_
    refine e_if (t := 47) (show pAt 182 18 = some (18, .ifCond .ge 29, 3, []) from by decide +kernel) rfl (fun c5 => ?_) (fun c5 => ?_)
    · replace vc := vc.1 c5
      refine e_aload_n (show pAt 182 47 = some (47, .aload_n 0, 1, []) from by decide +kernel) rfl (ra (by decide)) ?_
      refine Ends.call (show pAt 182 48 = some (48, .invokevirtual 345, 3, [161, 1, 0, 0, 6049, 6051, 97]) from by decide +kernel) (isRet_none rfl) rfl (call_this (show HS h from hs) rfl rfl (by decide)) (Ends.mono vc ?_)
      rintro _ h6 ⟨rfl, hs_h6, vc⟩
      refine e_iload_n (show pAt 182 51 = some (51, .iload_n 1, 1, []) from by decide +kernel) rfl ?_
      exact e_retI (show pAt 182 52 = some (52, .ireturn, 1, []) from by decide +kernel) rfl vc
    · replace vc := vc.2 c5
      refine e_aload_n (show pAt 182 21 = some (21, .aload_n 0, 1, []) from by decide +kernel) rfl (ra (by decide)) ?_
      refine Ends.call (show pAt 182 22 = some (22, .invokevirtual 336, 3, [158, 1, 0, 0, 6005, 6007, 87]) from by decide +kernel) (isRet_none rfl) rfl (call_this (show HS h from hs) rfl rfl (by decide)) (Ends.mono vc ?_)
      rintro _ h9 ⟨r10, rfl, hs_h9, vc⟩
      refine e_aload_n (show pAt 182 25 = some (25, .aload_n 0, 1, []) from by decide +kernel) rfl (ra (by decide)) ?_
      refine e_gR (show pAt 182 26 = some (26, .getfield 142, 3, [7, 43, 0, 4166]) from by decide +kernel) (show HS h9 from hs_h9) rfl (by decide) (hs_ref (show HS h9 from hs_h9) rfl) ?_
      refine e_iload_n (show pAt 182 29 = some (29, .iload_n 2, 1, []) from by decide +kernel) rfl ?_
      obtain ⟨c12, vc⟩ := vc
      refine e_aldv (v := h9.2.1 114 k.toNatClampNeg) (show pAt 182 30 = some (30, .iaload, 1, []) from by decide +kernel) (show HS h9 from hs_h9) (by decide) c12 rfl ?_
      refine e_icmp (t := 39) (show pAt 182 31 = some (31, .if_icmp .ne 8, 3, []) from by decide +kernel) rfl (fun c13 => ?_) (fun c13 => ?_)
      · replace vc := vc.1 c13
        refine e_iload_n (show pAt 182 39 = some (39, .iload_n 2, 1, []) from by decide +kernel) rfl ?_
        refine e_istore_n (show pAt 182 40 = some (40, .istore_n 1, 1, []) from by decide +kernel) ⟨Nat.le_of_ble_eq_true rfl, rfl⟩ rfl ?_
        refine e_iinc (c := 1) (show pAt 182 41 = some (41, .iinc 2 1, 3, []) from by decide +kernel) rfl rfl (by decide) rfl ?_
        refine e_goto (t := 9) (show pAt 182 44 = some (44, .goto (-35), 3, []) from by decide +kernel) rfl ?_
        exact vc
      · replace vc := vc.2 c13
        refine e_bipush (c := (-5)) (show pAt 182 34 = some (34, .bipush (-5), 2, []) from by decide +kernel) (by decide) ?_
        refine e_goto (t := 40) (show pAt 182 36 = some (36, .goto 4, 3, []) from by decide +kernel) rfl ?_
        refine e_istore_n (show pAt 182 40 = some (40, .istore_n 1, 1, []) from by decide +kernel) ⟨Nat.le_of_ble_eq_true rfl, rfl⟩ rfl ?_
        refine e_iinc (c := 1) (show pAt 182 41 = some (41, .iinc 2 1, 3, []) from by decide +kernel) rfl rfl (by decide) rfl ?_
        refine e_goto (t := 9) (show pAt 182 44 = some (44, .goto (-35), 3, []) from by decide +kernel) rfl ?_
        exact vc

theorem w_mjud0 {X : Scr} {dp : Nat} {h : Hp} {Q : Option Value → Hp → Prop} (t : Int32) (i : Int32) (hs : HS h)
    (vc : Ends X dp 198 0 [.ref 93, .int t] [] h (fun rv h1 => ∃ r2, rv = some (.int r2) ∧ HS h1 ∧ ((condB .ne r2 0 = true → (inB t 6 = true ∧ ((condB .lt (h1.2.1 123 t.toNatClampNeg) 0 = true → Ends X (dp + 1) 183 34 [.ref 93, .int t, .int i, .int 0] [] h1 Q) ∧ (condB .lt (h1.2.1 123 t.toNatClampNeg) 0 = false → (inB t 6 = true ∧ ((condB .eq (h1.2.1 123 t.toNatClampNeg) 4 = true → Ends X (dp + 1) 183 34 [.ref 93, .int t, .int i, .int 0] [] h1 Q) ∧ (condB .eq (h1.2.1 123 t.toNatClampNeg) 4 = false → Q (some (.int (-12))) h1))))))) ∧ (condB .ne r2 0 = false → Q (some (.int (-1))) h1)))) :
    Ends X (dp + 1) 183 0 [.ref 93, .int t, .int i, .retAddr 0] [] h Q := by
  have ra : ∀ {a : Nat}, a < 1000 → a ≤ OLDB := fun h => by have := OLDB_eq; omega
  refine e_aload_n (show pAt 183 0 = some (0, .aload_n 0, 1, []) from by decide +kernel) rfl (ra (by decide)) ?_
  refine e_iload_n (show pAt 183 1 = some (1, .iload_n 1, 1, []) from by decide +kernel) rfl ?_
  refine Ends.call (show pAt 183 2 = some (2, .invokevirtual 366, 3, [198, 2, 0, 0, 6138, 6140, 103]) from by decide +kernel) (isRet_none rfl) rfl (call_this (show HS h from hs) rfl rfl (by decide)) (Ends.mono vc ?_)
  rintro _ h1 ⟨r2, rfl, hs_h1, vc⟩
  refine e_if (t := 10) (show pAt 183 5 = some (5, .ifCond .ne 5, 3, []) from by decide +kernel) rfl (fun c4 => ?_) (fun c4 => ?_)
  · replace vc := vc.1 c4
    refine e_aload_n (show pAt 183 10 = some (10, .aload_n 0, 1, []) from by decide +kernel) rfl (ra (by decide)) ?_
    refine e_gR (show pAt 183 11 = some (11, .getfield 193, 3, [7, 60, 0, 4183]) from by decide +kernel) (show HS h1 from hs_h1) rfl (by decide) (hs_ref (show HS h1 from hs_h1) rfl) ?_
    refine e_iload_n (show pAt 183 14 = some (14, .iload_n 1, 1, []) from by decide +kernel) rfl ?_
    obtain ⟨c5, vc⟩ := vc
    refine e_aldv (v := h1.2.1 123 t.toNatClampNeg) (show pAt 183 15 = some (15, .iaload, 1, []) from by decide +kernel) (show HS h1 from hs_h1) (by decide) c5 rfl ?_
    refine e_if (t := 32) (show pAt 183 16 = some (16, .ifCond .lt 16, 3, []) from by decide +kernel) rfl (fun c6 => ?_) (fun c6 => ?_)
    · replace vc := vc.1 c6
      refine e_iconst (c := 0) (show pAt 183 32 = some (32, .iconst 0, 1, []) from by decide +kernel) (by decide) ?_
      refine e_istore_n (show pAt 183 33 = some (33, .istore_n 3, 1, []) from by decide +kernel) ⟨Nat.le_of_ble_eq_true rfl, rfl⟩ rfl ?_
      exact vc
    · replace vc := vc.2 c6
      refine e_aload_n (show pAt 183 19 = some (19, .aload_n 0, 1, []) from by decide +kernel) rfl (ra (by decide)) ?_
      refine e_gR (show pAt 183 20 = some (20, .getfield 193, 3, [7, 60, 0, 4183]) from by decide +kernel) (show HS h1 from hs_h1) rfl (by decide) (hs_ref (show HS h1 from hs_h1) rfl) ?_
      refine e_iload_n (show pAt 183 23 = some (23, .iload_n 1, 1, []) from by decide +kernel) rfl ?_
      obtain ⟨c7, vc⟩ := vc
      refine e_aldv (v := h1.2.1 123 t.toNatClampNeg) (show pAt 183 24 = some (24, .iaload, 1, []) from by decide +kernel) (show HS h1 from hs_h1) (by decide) c7 rfl ?_
      refine e_iconst (c := 4) (show pAt 183 25 = some (25, .iconst 4, 1, []) from by decide +kernel) (by decide) ?_
      refine e_icmp (t := 32) (show pAt 183 26 = some (26, .if_icmp .eq 6, 3, []) from by decide +kernel) rfl (fun c8 => ?_) (fun c8 => ?_)
      · replace vc := vc.1 c8
        refine e_iconst (c := 0) (show pAt 183 32 = some (32, .iconst 0, 1, []) from by decide +kernel) (by decide) ?_
        refine e_istore_n (show pAt 183 33 = some (33, .istore_n 3, 1, []) from by decide +kernel) ⟨Nat.le_of_ble_eq_true rfl, rfl⟩ rfl ?_
        exact vc
      · replace vc := vc.2 c8
        refine e_bipush (c := (-12)) (show pAt 183 29 = some (29, .bipush (-12), 2, []) from by decide +kernel) (by decide) ?_
        exact e_retI (show pAt 183 31 = some (31, .ireturn, 1, []) from by decide +kernel) rfl vc
  · replace vc := vc.2 c4
    refine e_iconst (c := (-1)) (show pAt 183 8 = some (8, .iconst (-1), 1, []) from by decide +kernel) (by decide) ?_
    exact e_retI (show pAt 183 9 = some (9, .ireturn, 1, []) from by decide +kernel) rfl vc

theorem w_mjud1 {X : Scr} {dp : Nat} {h : Hp} {Q : Option Value → Hp → Prop} (t : Int32) (i : Int32) (p : Int32) (hs : HS h)
    (vc : ((condB .ge p (h.2.1 93 0) = true → Q (some (.int (-5))) h) ∧ (condB .ge p (h.2.1 93 0) = false → (inB t 6 = true ∧ ((condB .lt (h.2.1 123 t.toNatClampNeg) 0 = true → Q (some (.int (100 + p))) h) ∧ (condB .lt (h.2.1 123 t.toNatClampNeg) 0 = false → ((condB .lt i 0 = true → Q (some (.int (100 + p))) h) ∧ (condB .lt i 0 = false → (inB t 6 = true ∧ ((condB .le i (((h.2.1 124 t.toNatClampNeg) - p) - 1) = true → (inB (((60 * t) + i) + p) 360 = true ∧ Ends X dp 139 0 [.ref 93, .int p] [] h (fun rv h8 => ∃ r9, rv = some (.int r9) ∧ HS h8 ∧ ((condB .eq r9 0 = true → ((condB .eq (lg_cmp (h.2.2.1 125 (((60 * t) + i) + p).toNatClampNeg) 0) 0 = true → Ends X (dp + 1) 183 34 [.ref 93, .int t, .int i, .int (p + 1)] [] h8 Q) ∧ (condB .eq (lg_cmp (h.2.2.1 125 (((60 * t) + i) + p).toNatClampNeg) 0) 0 = false → Q (some (.int p)) h8))) ∧ (condB .eq r9 0 = false → ((condB .eq (lg_cmp (h.2.2.1 125 (((60 * t) + i) + p).toNatClampNeg) 1) 0 = true → Ends X (dp + 1) 183 34 [.ref 93, .int t, .int i, .int (p + 1)] [] h8 Q) ∧ (condB .eq (lg_cmp (h.2.2.1 125 (((60 * t) + i) + p).toNatClampNeg) 1) 0 = false → Q (some (.int p)) h8))))))) ∧ (condB .le i (((h.2.1 124 t.toNatClampNeg) - p) - 1) = false → Q (some (.int (100 + p))) h))))))))))) :
    Ends X (dp + 1) 183 34 [.ref 93, .int t, .int i, .int p] [] h Q := by
  have ra : ∀ {a : Nat}, a < 1000 → a ≤ OLDB := fun h => by have := OLDB_eq; omega
  refine e_iload_n (show pAt 183 34 = some (34, .iload_n 3, 1, []) from by decide +kernel) rfl ?_
  refine e_aload_n (show pAt 183 35 = some (35, .aload_n 0, 1, []) from by decide +kernel) rfl (ra (by decide)) ?_
  refine e_gIv (v := h.2.1 93 0) (show pAt 183 36 = some (36, .getfield 7, 3, [7, 0, 0, 4123]) from by decide +kernel) (show HS h from hs) rfl (by decide) rfl ?_
  refine e_icmp (t := 112) (show pAt 183 39 = some (39, .if_icmp .ge 73, 3, []) from by decide +kernel) rfl (fun c1 => ?_) (fun c1 => ?_)
  · replace vc := vc.1 c1
    refine e_bipush (c := (-5)) (show pAt 183 112 = some (112, .bipush (-5), 2, []) from by decide +kernel) (by decide) ?_
    exact e_retI (show pAt 183 114 = some (114, .ireturn, 1, []) from by decide +kernel) rfl vc
  · replace vc := vc.2 c1
    refine e_aload_n (show pAt 183 42 = some (42, .aload_n 0, 1, []) from by decide +kernel) rfl (ra (by decide)) ?_
    refine e_gR (show pAt 183 43 = some (43, .getfield 193, 3, [7, 60, 0, 4183]) from by decide +kernel) (show HS h from hs) rfl (by decide) (hs_ref (show HS h from hs) rfl) ?_
    refine e_iload_n (show pAt 183 46 = some (46, .iload_n 1, 1, []) from by decide +kernel) rfl ?_
    obtain ⟨c2, vc⟩ := vc
    refine e_aldv (v := h.2.1 123 t.toNatClampNeg) (show pAt 183 47 = some (47, .iaload, 1, []) from by decide +kernel) (show HS h from hs) (by decide) c2 rfl ?_
    refine e_if (t := 69) (show pAt 183 48 = some (48, .ifCond .lt 21, 3, []) from by decide +kernel) rfl (fun c3 => ?_) (fun c3 => ?_)
    · replace vc := vc.1 c3
      refine e_bipush (c := 100) (show pAt 183 69 = some (69, .bipush 100, 2, []) from by decide +kernel) (by decide) ?_
      refine e_iload_n (show pAt 183 71 = some (71, .iload_n 3, 1, []) from by decide +kernel) rfl ?_
      refine e_iadd (show pAt 183 72 = some (72, .iadd, 1, []) from by decide +kernel) ?_
      exact e_retI (show pAt 183 73 = some (73, .ireturn, 1, []) from by decide +kernel) rfl vc
    · replace vc := vc.2 c3
      refine e_iload_n (show pAt 183 51 = some (51, .iload_n 2, 1, []) from by decide +kernel) rfl ?_
      refine e_if (t := 69) (show pAt 183 52 = some (52, .ifCond .lt 17, 3, []) from by decide +kernel) rfl (fun c4 => ?_) (fun c4 => ?_)
      · replace vc := vc.1 c4
        refine e_bipush (c := 100) (show pAt 183 69 = some (69, .bipush 100, 2, []) from by decide +kernel) (by decide) ?_
        refine e_iload_n (show pAt 183 71 = some (71, .iload_n 3, 1, []) from by decide +kernel) rfl ?_
        refine e_iadd (show pAt 183 72 = some (72, .iadd, 1, []) from by decide +kernel) ?_
        exact e_retI (show pAt 183 73 = some (73, .ireturn, 1, []) from by decide +kernel) rfl vc
      · replace vc := vc.2 c4
        refine e_iload_n (show pAt 183 55 = some (55, .iload_n 2, 1, []) from by decide +kernel) rfl ?_
        refine e_aload_n (show pAt 183 56 = some (56, .aload_n 0, 1, []) from by decide +kernel) rfl (ra (by decide)) ?_
        refine e_gR (show pAt 183 57 = some (57, .getfield 196, 3, [7, 61, 0, 4184]) from by decide +kernel) (show HS h from hs) rfl (by decide) (hs_ref (show HS h from hs) rfl) ?_
        refine e_iload_n (show pAt 183 60 = some (60, .iload_n 1, 1, []) from by decide +kernel) rfl ?_
        obtain ⟨c5, vc⟩ := vc
        refine e_aldv (v := h.2.1 124 t.toNatClampNeg) (show pAt 183 61 = some (61, .iaload, 1, []) from by decide +kernel) (show HS h from hs) (by decide) c5 rfl ?_
        refine e_iload_n (show pAt 183 62 = some (62, .iload_n 3, 1, []) from by decide +kernel) rfl ?_
        refine e_isub (show pAt 183 63 = some (63, .isub, 1, []) from by decide +kernel) ?_
        refine e_iconst (c := 1) (show pAt 183 64 = some (64, .iconst 1, 1, []) from by decide +kernel) (by decide) ?_
        refine e_isub (show pAt 183 65 = some (65, .isub, 1, []) from by decide +kernel) ?_
        refine e_icmp (t := 74) (show pAt 183 66 = some (66, .if_icmp .le 8, 3, []) from by decide +kernel) rfl (fun c6 => ?_) (fun c6 => ?_)
        · replace vc := vc.1 c6
          refine e_aload_n (show pAt 183 74 = some (74, .aload_n 0, 1, []) from by decide +kernel) rfl (ra (by decide)) ?_
          refine e_gR (show pAt 183 75 = some (75, .getfield 199, 3, [7, 62, 0, 4185]) from by decide +kernel) (show HS h from hs) rfl (by decide) (hs_ref (show HS h from hs) rfl) ?_
          refine e_bipush (c := 60) (show pAt 183 78 = some (78, .bipush 60, 2, []) from by decide +kernel) (by decide) ?_
          refine e_iload_n (show pAt 183 80 = some (80, .iload_n 1, 1, []) from by decide +kernel) rfl ?_
          refine e_imul (show pAt 183 81 = some (81, .imul, 1, []) from by decide +kernel) ?_
          refine e_iload_n (show pAt 183 82 = some (82, .iload_n 2, 1, []) from by decide +kernel) rfl ?_
          refine e_iadd (show pAt 183 83 = some (83, .iadd, 1, []) from by decide +kernel) ?_
          refine e_iload_n (show pAt 183 84 = some (84, .iload_n 3, 1, []) from by decide +kernel) rfl ?_
          refine e_iadd (show pAt 183 85 = some (85, .iadd, 1, []) from by decide +kernel) ?_
          obtain ⟨c7, vc⟩ := vc
          refine e_lald (show pAt 183 86 = some (86, .laload, 1, []) from by decide +kernel) (show HS h from hs) (by decide) c7 ?_
          refine e_aload_n (show pAt 183 87 = some (87, .aload_n 0, 1, []) from by decide +kernel) rfl (ra (by decide)) ?_
          refine e_iload_n (show pAt 183 88 = some (88, .iload_n 3, 1, []) from by decide +kernel) rfl ?_
          refine Ends.call (show pAt 183 89 = some (89, .invokevirtual 291, 3, [139, 2, 0, 0, 5169, 5171, 70]) from by decide +kernel) (isRet_none rfl) rfl (call_this (show HS h from hs) rfl rfl (by decide)) (Ends.mono vc ?_)
          rintro _ h8 ⟨r9, rfl, hs_h8, vc⟩
          refine e_if (t := 99) (show pAt 183 92 = some (92, .ifCond .eq 7, 3, []) from by decide +kernel) rfl (fun c11 => ?_) (fun c11 => ?_)
          · replace vc := vc.1 c11
            refine e_lconst (c := 0) (show pAt 183 99 = some (99, .lconst 0, 1, []) from by decide +kernel) (by decide) ?_
            refine e_lcmp (show pAt 183 100 = some (100, .lcmp, 1, []) from by decide +kernel) ?_
            refine e_if (t := 106) (show pAt 183 101 = some (101, .ifCond .eq 5, 3, []) from by decide +kernel) rfl (fun c12 => ?_) (fun c12 => ?_)
            · replace vc := vc.1 c12
              refine e_iinc (c := 1) (show pAt 183 106 = some (106, .iinc 3 1, 3, []) from by decide +kernel) rfl rfl (by decide) rfl ?_
              refine e_goto (t := 34) (show pAt 183 109 = some (109, .goto (-75), 3, []) from by decide +kernel) rfl ?_
              exact vc
            · replace vc := vc.2 c12
              refine e_iload_n (show pAt 183 104 = some (104, .iload_n 3, 1, []) from by decide +kernel) rfl ?_
              exact e_retI (show pAt 183 105 = some (105, .ireturn, 1, []) from by decide +kernel) rfl vc
          · replace vc := vc.2 c11
            refine e_lconst (c := 1) (show pAt 183 95 = some (95, .lconst 1, 1, []) from by decide +kernel) (by decide) ?_
            refine e_goto (t := 100) (show pAt 183 96 = some (96, .goto 4, 3, []) from by decide +kernel) rfl ?_
            refine e_lcmp (show pAt 183 100 = some (100, .lcmp, 1, []) from by decide +kernel) ?_
            refine e_if (t := 106) (show pAt 183 101 = some (101, .ifCond .eq 5, 3, []) from by decide +kernel) rfl (fun c13 => ?_) (fun c13 => ?_)
            · replace vc := vc.1 c13
              refine e_iinc (c := 1) (show pAt 183 106 = some (106, .iinc 3 1, 3, []) from by decide +kernel) rfl rfl (by decide) rfl ?_
              refine e_goto (t := 34) (show pAt 183 109 = some (109, .goto (-75), 3, []) from by decide +kernel) rfl ?_
              exact vc
            · replace vc := vc.2 c13
              refine e_iload_n (show pAt 183 104 = some (104, .iload_n 3, 1, []) from by decide +kernel) rfl ?_
              exact e_retI (show pAt 183 105 = some (105, .ireturn, 1, []) from by decide +kernel) rfl vc
        · replace vc := vc.2 c6
          refine e_bipush (c := 100) (show pAt 183 69 = some (69, .bipush 100, 2, []) from by decide +kernel) (by decide) ?_
          refine e_iload_n (show pAt 183 71 = some (71, .iload_n 3, 1, []) from by decide +kernel) rfl ?_
          refine e_iadd (show pAt 183 72 = some (72, .iadd, 1, []) from by decide +kernel) ?_
          exact e_retI (show pAt 183 73 = some (73, .ireturn, 1, []) from by decide +kernel) rfl vc
end JN99tz1mcalls
section JN99tz2state
/-! How things are, on both sides; what is asked anew. -/
def zR (N : Nat) (K : Nat → Bool) : Nat → Bool := fun p => decide (p < N) && !K p
def WTQ : List (Nat × Nat) := [(17, 999), (18, 999), (19, 999), (20, 999), (21, 999), (22, 999), (23, 999), (24, 999), (25, 999), (31, 999), (32, 999), (33, 999), (34, 999), (35, 999), (36, 999), (37, 999)]
theorem WTQ_n {a k : Nat} (h1 : a < 17 ∨ 37 < a ∨ (25 < a ∧ a < 31)) : inW WTQ a k = false := by
  cases c : inW WTQ a k with
  | false => rfl
  | true =>
    simp only [inW, WTQ, List.any_cons, List.any_nil, Bool.or_false, Bool.or_eq_true, Bool.and_eq_true, beq_iff_eq] at c
    omega
theorem WCX_T {h h' : Hp} (hf : frm WCX h h') : frm WTQ h h' := frm_sub (V := WCX) (by decide) hf
/-- the class's people now are S, and the yard that holds -/
def AST (q : Nat) (S : Nat → Nat → Int) (Y : Int) (cs : List Cl) (m : List Int) (N : Nat) (K : Nat → Bool) (h : Hp) : Prop := YB q ∧ (∀ p, p < 7 → (h.2.1 2 p).toInt = S 0 p ∧ (h.2.1 3 p).toInt = S 1 p ∧ (h.2.1 4 p).toInt = S 2 p ∧ (h.2.1 5 p).toInt = S 3 p ∧ (h.2.1 6 p).toInt = S 4 p) ∧ (∀ i, i < 28 → (h.2.1 7 i).toInt = S 5 i) ∧ (h.2.1 1 8).toInt = Y ∧ (h.2.1 1 0).toInt = N ∧ BSET (h.2.1 1 7) K ∧ RY q h cs m ∧ (((h.2.1 1 12).toInt < 0 ∧ q = 39) ∨ ∃ f : Nat, (h.2.1 1 12).toInt = f ∧ f < 6 ∧ h.2.2.2 38 f = some q)
theorem AST.fr {q : Nat} {S : Nat → Nat → Int} {Y : Int} {cs : List Cl} {m : List Int} {N : Nat} {K : Nat → Bool} {h h' : Hp} (ha : AST q S Y cs m N K h) (hf : frm WTQ h h') : AST q S Y cs m N K h' := by
  obtain ⟨hY, a1, a2, a3, a4, a5, a6, a7⟩ := ha
  have r := yb_rng hY
  have f : ∀ a k, (a < 17 ∨ 37 < a) → h'.2.1 a k = h.2.1 a k := fun a k h1 => frI hf (WTQ_n (by omega))
  refine ⟨hY, fun p hp => ?_, fun i hi => ?_, ?_, ?_, ?_, ?_, ?_⟩
  · rw [f 2 p (by omega), f 3 p (by omega), f 4 p (by omega), f 5 p (by omega), f 6 p (by omega)]
    exact a1 p hp
  · rw [f 7 i (by omega)]
    exact a2 i hi
  · rw [f 1 8 (by omega)]; exact a3
  · rw [f 1 0 (by omega)]; exact a4
  · rw [f 1 7 (by omega)]; exact a5
  · obtain ⟨r1, r2, r3⟩ := a6
    refine ⟨by rw [f q 0 (by omega)]; exact r1, fun c hc => ?_, fun j hj => by rw [f (q + 4) j (by omega)]; exact r3 j hj⟩
    rw [f (q + 1) c (by omega), f (q + 2) c (by omega), f (q + 3) c (by omega)]
    exact r2 c hc
  · rw [f 1 12 (by omega)]
    rcases a7 with c | ⟨g, g1, g2, g3⟩
    · exact Or.inl c
    · refine Or.inr ⟨g, g1, g2, ?_⟩
      rw [(hf 38 g (WTQ_n (by omega))).2.2]
      exact g3
theorem bec_f7 {h : Hp} {a b : Nat} : (bec h a b).2.1 a 7 = h.2.1 b 7 := by
  unfold bec
  rw [put_ne (by omega), put_ne (by omega), hpM_ne (by omega), put_ne (by omega), put_ne (by omega), put_at]
theorem bec_f8 {h : Hp} {a b : Nat} : (bec h a b).2.1 a 8 = h.2.1 b 8 := by
  unfold bec
  rw [put_ne (by omega), put_ne (by omega), hpM_ne (by omega), put_ne (by omega), put_at]
/-- behind asksAnew -/
def askH (h : Hp) (q : Nat) : Hp := hpI (hpI (hpI (hpI (hpY (bec h 18 1) q) 17 9 0) 17 12 0) 17 13 (-1)) 17 15 (-1)
theorem askH_ne {h : Hp} {q a k : Nat} (hn : a ≠ 17) : (askH h q).2.1 a k = (bec h 18 1).2.1 a k := by
  unfold askH
  rw [put_ne (by omega), put_ne (by omega), put_ne (by omega), put_ne (by omega)]
  rfl
theorem zsnt_t {W : Nat → Int} {one t t' : Int} (ho : one < 0) : zsnt W one t = zsnt W one t' := by
  funext x
  unfold zsnt
  rw [if_neg (by omega), if_neg (by omega)]
theorem zW_t {S : Nat → Nat → Int} {Y : Int} {cs : List Cl} {m : List Int} {K R : Nat → Bool} {hd : Bool} {one t t' fo le : Int} (ho : one < 0) : zW S Y cs m K R hd one t fo le = zW S Y cs m K R hd one t' fo le := by
  unfold zW
  rw [zsnt_t ho]
theorem zcau_t {S : Nat → Nat → Int} {Y : Int} {cs : List Cl} {m : List Int} {K R : Nat → Bool} {hd : Bool} {one t t' fo le : Int} (ho : one < 0) : zcau S Y cs m K R hd one t fo le = zcau S Y cs m K R hd one t' fo le := by
  unfold zcau
  rw [zW_t ho]
/-- the copy, as asked anew -/
def NCS (q : Nat) (S : Nat → Nat → Int) (Y : Int) (cs : List Cl) (m : List Int) (N : Nat) (K : Nat → Bool) (h : Hp) : Prop := CG h S Y ∧ YR q h cs m ∧ (h.2.1 18 0).toInt = N ∧ BSET (h.2.1 18 7) K ∧ h.2.1 17 9 = 0 ∧ h.2.1 17 12 = 0 ∧ (h.2.1 17 13).toInt = -1 ∧ (h.2.1 17 15).toInt = -1
theorem NCS.fr {q : Nat} (hY : YB q) {S : Nat → Nat → Int} {Y : Int} {cs : List Cl} {m : List Int} {N : Nat} {K : Nat → Bool} {h h' : Hp} (hc : NCS q S Y cs m N K h) (hf : frm WCX h h') : NCS q S Y cs m N K h' := by
  obtain ⟨a1, a2, a3, a4, a5, a6, a7, a8⟩ := hc
  exact ⟨a1.fr hf, a2.fr hY hf, by rw [frI hf (a := 18) rfl]; exact a3, by rw [frI hf (a := 18) rfl]; exact a4, by rw [frI hf (a := 17) rfl]; exact a5, by rw [frI hf (a := 17) rfl]; exact a6, by rw [frI hf (a := 17) rfl]; exact a7, by rw [frI hf (a := 17) rfl]; exact a8⟩
theorem NCS.d {q : Nat} {S : Nat → Nat → Int} {Y : Int} {cs : List Cl} {m : List Int} {N : Nat} {K : Nat → Bool} {h : Hp} (hc : NCS q S Y cs m N K h) : DCS q S Y cs m N K (zR N K) false (-1) (h.2.1 17 14).toInt (-1) 0 h := by
  obtain ⟨a1, a2, a3, a4, a5, a6, a7, a8⟩ := hc
  exact ⟨a1, a2, a3, ⟨K, fun _ => false, a4, by rw [a5]; exact BSET.zero, fun p _ => by rw [Bool.not_false, Bool.and_true], fun p _ => by rw [Bool.not_false, Bool.and_true]; rfl⟩, a6, a7, rfl, a8, fun z => absurd z (by decide)⟩
/-- who is caught, as all is -/
def zC (S : Nat → Nat → Int) (Y : Int) (cs : List Cl) (m : List Int) (N : Nat) (K : Nat → Bool) : Nat → Bool := zcau S Y cs m K (zR N K) false (-1) 0 (-1) 0
section ASK
variable {X : Scr} {Q : Option Value → Hp → Prop} {q : Nat} {S : Nat → Nat → Int} {Y : Int} {cs : List Cl} {m : List Int} {N : Nat} {K : Nat → Bool} {h : Hp}
theorem ask_x {dp : Nat} (ha : AST q S Y cs m N K h) (hs : HS h) (hQ : Q none (askH h q)) : Ends X (dp + 1 + 1) 100 0 [.ref 0, .retAddr 0] [] h Q := by
  obtain ⟨hY, a1, a2, a3, a4, a5, a6, a7⟩ := ha
  have z0' : (0 : Int32).toInt = 0 := rfl
  have j6 : (6 : Int32).toInt = 6 := rfl
  have hsb : HS (bec h 18 1) := bec_hs hs
  refine w_casks hs ⟨fun e => ?_, fun e => ⟨fun e2 => ?_, fun e2 => ?_⟩⟩
  · have e : (h.2.1 1 12).toInt < (0 : Int32).toInt := of_decide_eq_true (cJ e)
    have q39 : q = 39 := by
      rcases a7 with c | ⟨g, g1, g2, g3⟩
      · exact c.2
      · omega
    subst q39
    exact w_cstt hY hs (w_bec181 hs ⟨rfl, hsb, rfl, hs_Y hY hsb, hQ⟩)
  · exfalso
    have e : ¬ (h.2.1 1 12).toInt < (0 : Int32).toInt := of_decide_eq_false (cJ e)
    have e2 : (6 : Int32).toInt ≤ (h.2.1 1 12).toInt := of_decide_eq_true (cJ e2)
    rcases a7 with c | ⟨g, g1, g2, g3⟩ <;> omega
  · have e : ¬ (h.2.1 1 12).toInt < (0 : Int32).toInt := of_decide_eq_false (cJ e)
    obtain ⟨g, g1, g2, g3⟩ := a7.resolve_left (by omega)
    have rq := yb_rng hY
    refine ⟨q, inB_iff (by omega) (by omega), ?_, by omega, w_cstt hY hs (w_bec181 hs ⟨rfl, hsb, rfl, hs_Y hY hsb, hQ⟩)⟩
    rw [show (h.2.1 1 12).toNatClampNeg = g by show (h.2.1 1 12).toInt.toNat = _; omega]
    exact g3
theorem asks_ok {dp : Nat} (ha : AST q S Y cs m N K h) (hh : HI h) (hQ : ∀ h1, HI h1 → frm WTQ h h1 → NCS q S Y cs m N K h1 → Q none h1) : Ends X (dp + 1 + 1) 100 0 [.ref 0, .retAddr 0] [] h Q := by
  have e1 := ask_x (X := X) (dp := dp) (Q := fun v h' => v = none ∧ h' = askH h q) ha hh.hs ⟨rfl, rfl⟩
  have e2 := gd1 8 (T := k_8) (by rfl) X (dp + 1 + 1) (fun _ => 0) h [.ref 0] (by show 2 ≤ dp + 1 + 1; omega) hh (fun q => by cases q) (fun v q hq => by cases hq) ⟨⟨0, rfl, List.mem_singleton.mpr rfl⟩, trivial⟩ (fun q hq => by cases hq)
  refine (e1.and e2).mono ?_
  rintro v hc ⟨⟨rfl, rfl⟩, gc, fc, -⟩
  have ft : frm WTQ h (askH h q) := frm_sub (V := cW k_8) (by decide) fc
  have ha' := ha.fr ft
  obtain ⟨hY, a1, a2, a3, a4, a5, a6, a7⟩ := ha
  refine hQ _ gc ft ⟨⟨fun p hp => ?_, fun i hi => ?_, ?_⟩, ⟨?_, ha'.2.2.2.2.2.2.1⟩, ?_, ?_, ?_, ?_, ?_, ?_⟩
  · rw [askH_ne (by decide), askH_ne (by decide), askH_ne (by decide), askH_ne (by decide), askH_ne (by decide), bec_1 (a := 18) (b := 1) (by omega) hp, bec_2 (a := 18) (b := 1) (by omega) hp, bec_3 (a := 18) (b := 1) (by omega) hp, bec_4 (a := 18) (b := 1) (by omega) hp, bec_5 (a := 18) (b := 1) (by omega) hp]
    exact a1 p hp
  · rw [askH_ne (by decide), bec_6 (a := 18) (b := 1) (by omega) hi]
    exact a2 i hi
  · rw [askH_ne (by decide), bec_f8]
    exact a3
  · show (hpY (bec h 18 1) q).2.2.2 17 1 = some q
    exact hpY_at
  · rw [askH_ne (by decide), bec_0]
    exact a4
  · rw [askH_ne (by decide), bec_f7]
    exact a5
  · unfold askH
    rw [put_ne (by omega), put_ne (by omega), put_ne (by omega), put_at]
  · unfold askH
    rw [put_ne (by omega), put_ne (by omega), put_at]
  · unfold askH
    rw [put_ne (by omega), put_at]
    rfl
  · unfold askH
    rw [put_at]
    rfl
theorem dct_ok {dp : Nat} (ha : AST q S Y cs m N K h) (hs : HS h) (pI : Int32) (p : Nat) (hp : pI.toInt = p) (h7 : p < 7) (hQ : Q (some (.int (b2i (K p)))) h) : Ends X (dp + 1) 27 0 [.ref 1, .int pI] [] h Q :=
  w_dct pI hs (isin_ok ha.2.2.2.2.2.1 hp h7 hs ⟨_, rfl, hs, b2i_01 _, hQ⟩)
theorem ncau_ok {dp : Nat} (hY : YB q) (mk : MOK S Y N) (yk : YOK cs m) (hh : HI h) (hn : NCS q S Y cs m N K h) (hQ : ∀ (r : Int32) h', HI h' → frm WCX h h' → NCS q S Y cs m N K h' → MSR S Y cs m K (zR N K) false (-1) 0 (-1) 0 h' → BSET r (zC S Y cs m N K) → Q (some (.int r)) h') : Ends X (dp + 1 + 1 + 1 + 1) 10 0 [.ref 17, .retAddr 0, .retAddr 0, .retAddr 0, .retAddr 0, .retAddr 0, .retAddr 0] [] h Q := by
  refine cau_ok hY mk.1 mk.2.1 yk mk.2.2.1 mk.2.2.2 (Or.inl rfl) hh hn.d (fun r h' g f ms hr => hQ r h' g f (hn.fr hY f) ?_ ?_)
  · unfold MSR at ms ⊢
    rw [zW_t (t := (h.2.1 17 14).toInt) (t' := 0) (by decide)] at ms
    exact ms
  · unfold zC
    rw [← zcau_t (t := (h.2.1 17 14).toInt) (by decide)]
    exact hr
theorem iv_187 : ivl 18 7 = (-2147483648, 2147483647) ∧ ivl 18 8 = (-2147483648, 2147483647) := by decide +kernel
theorem goes_ok {dp : Nat} (hY : YB q) (mk : MOK S Y N) (yk : YOK cs m) (hY9 : Y ≤ 2000) (hh : HI h) (hn : NCS q S Y cs m N K h) (hQ : ∀ (r : Int32) h', HI h' → frm WTQ h h' → NCS q S (Y + 1) cs m N (fun p => K p || zC S Y cs m N K p) h' → BSET r (zC S Y cs m N K) → Q (some (.int r)) h') : Ends X (dp + 1 + 1 + 1 + 1 + 1) 9 0 [.ref 17, .retAddr 0] [] h Q := by
  refine w_goes hh.hs (ncau_ok hY mk yk hh hn (fun r h1 g1 f1 n1 _ hr => ⟨r, rfl, g1.hs, ?_⟩))
  obtain ⟨⟨c1, c2, c3⟩, a2, a3, a4, a5, a6, a7, a8⟩ := n1
  have y0 := mk.2.2.1
  have v8 : (h1.2.1 18 8 + 1).toInt = Y + 1 := by rw [i_add (by rw [i1]; omega) (by rw [i1]; omega), i1, c3]
  generalize h1.2.1 18 8 + 1 = y8 at v8
  have s7 := a4.or hr
  generalize h1.2.1 18 7 ||| r = x7 at s7
  refine hQ r _ (HI_full (HI_full g1 iv_187.1) iv_187.2) (frm_put (frm_put (WCX_T f1) rfl) rfl) ⟨⟨fun p hp => ?_, fun i hi => ?_, by rw [put_at]; exact v8⟩, ⟨a2.1, ?_⟩, ?_, ?_, ?_, ?_, ?_, ?_⟩ hr
  · rw [put_ne (by omega), put_ne (by omega), put_ne (by omega), put_ne (by omega), put_ne (by omega), put_ne (by omega), put_ne (by omega), put_ne (by omega), put_ne (by omega), put_ne (by omega)]
    exact c1 p hp
  · rw [put_ne (by omega), put_ne (by omega)]
    exact c2 i hi
  · have rq := yb_rng hY
    obtain ⟨r1, r2, r3⟩ := a2.2
    refine ⟨by rw [put_ne (by omega), put_ne (by omega)]; exact r1, fun c hc => ?_, fun j hj => by rw [put_ne (by omega), put_ne (by omega)]; exact r3 j hj⟩
    rw [put_ne (by omega), put_ne (by omega), put_ne (by omega), put_ne (by omega), put_ne (by omega), put_ne (by omega)]
    exact r2 c hc
  · rw [put_ne (by omega), put_ne (by omega)]; exact a3
  · rw [put_ne (by omega), put_at]; exact s7
  · rw [put_ne (by omega), put_ne (by omega)]; exact a5
  · rw [put_ne (by omega), put_ne (by omega)]; exact a6
  · rw [put_ne (by omega), put_ne (by omega)]; exact a7
  · rw [put_ne (by omega), put_ne (by omega)]; exact a8
end ASK
/-- one cell of S -/
def upS (S : Nat → Nat → Int) (a p : Nat) (v : Int) : Nat → Nat → Int := fun b x => if b = a ∧ x = p then v else S b x
theorem upS_rg {S : Nat → Nat → Int} {p : Nat} {v : Int} (hsr : SRG S) (hv : 0 ≤ v ∧ v ≤ 6) : SRG (upS S 2 p v) := by
  intro x hx
  obtain ⟨s1, s2, s3, s4, s5⟩ := hsr x hx
  unfold upS
  refine ⟨by rw [if_neg (by omega)]; exact s1, by rw [if_neg (by omega)]; exact s2, ?_, by rw [if_neg (by omega)]; exact s4, by rw [if_neg (by omega)]; exact s5⟩
  split
  · exact hv
  · exact s3
theorem upS_rg4 {S : Nat → Nat → Int} {p : Nat} {v : Int} (hsr : SRG S) (hv : 0 ≤ v ∧ v ≤ 9) : SRG (upS S 4 p v) := by
  intro x hx
  obtain ⟨s1, s2, s3, s4, s5⟩ := hsr x hx
  unfold upS
  refine ⟨by rw [if_neg (by omega)]; exact s1, by rw [if_neg (by omega)]; exact s2, by rw [if_neg (by omega)]; exact s3, by rw [if_neg (by omega)]; exact s4, ?_⟩
  split
  · exact hv
  · exact s5
theorem upS_5 {S : Nat → Nat → Int} {a p : Nat} {v : Int} (ha : a ≠ 5) (h5 : SR5 S) : SR5 (upS S a p v) := fun i hi => by
  unfold upS
  rw [if_neg (by omega)]
  exact h5 i hi
theorem CG.up2 {h : Hp} {S : Nat → Nat → Int} {Y : Int} {p : Nat} {v : Int32} (hg : CG h S Y) : CG (hpI h 21 p v) (upS S 2 p v.toInt) Y := by
  obtain ⟨g1, g2, g3⟩ := hg
  refine ⟨fun x hx => ?_, fun i hi => ?_, by rw [put_ne (by omega)]; exact g3⟩
  · obtain ⟨k1, k2, k3, k4, k5⟩ := g1 x hx
    have e : ∀ b, b ≠ 21 → (hpI h 21 p v).2.1 b x = h.2.1 b x := fun b hb => put_ne (by omega)
    unfold upS
    rw [e 19 (by decide), e 20 (by decide), e 22 (by decide), e 23 (by decide), put_if]
    refine ⟨by rw [if_neg (by omega)]; exact k1, by rw [if_neg (by omega)]; exact k2, ?_, by rw [if_neg (by omega)]; exact k4, by rw [if_neg (by omega)]; exact k5⟩
    by_cases c : x = p
    · rw [if_pos c, if_pos ⟨rfl, c⟩]
    · rw [if_neg c, if_neg (fun z => c z.2)]
      exact k3
  · unfold upS
    rw [put_ne (by omega), if_neg (by omega)]
    exact g2 i hi
theorem CG.up4 {h : Hp} {S : Nat → Nat → Int} {Y : Int} {p : Nat} {v : Int32} (hg : CG h S Y) : CG (hpI h 23 p v) (upS S 4 p v.toInt) Y := by
  obtain ⟨g1, g2, g3⟩ := hg
  refine ⟨fun x hx => ?_, fun i hi => ?_, by rw [put_ne (by omega)]; exact g3⟩
  · obtain ⟨k1, k2, k3, k4, k5⟩ := g1 x hx
    have e : ∀ b, b ≠ 23 → (hpI h 23 p v).2.1 b x = h.2.1 b x := fun b hb => put_ne (by omega)
    unfold upS
    rw [e 19 (by decide), e 20 (by decide), e 21 (by decide), e 22 (by decide), put_if]
    refine ⟨by rw [if_neg (by omega)]; exact k1, by rw [if_neg (by omega)]; exact k2, by rw [if_neg (by omega)]; exact k3, by rw [if_neg (by omega)]; exact k4, ?_⟩
    by_cases c : x = p
    · rw [if_pos c, if_pos ⟨rfl, c⟩]
    · rw [if_neg c, if_neg (fun z => c z.2)]
      exact k5
  · unfold upS
    rw [put_ne (by omega), if_neg (by omega)]
    exact g2 i hi
theorem MG.up2 {h : Hp} {S : Nat → Nat → Int} {Y : Int} {p : Nat} {v : Int32} (hg : MG h S Y) : MG (hpI h 96 p v) (upS S 2 p v.toInt) Y := by
  obtain ⟨g1, g2, g3⟩ := hg
  refine ⟨fun x hx => ?_, fun i hi => ?_, by rw [put_ne (by omega)]; exact g3⟩
  · obtain ⟨k1, k2, k3, k4, k5⟩ := g1 x hx
    have e : ∀ b, b ≠ 96 → (hpI h 96 p v).2.1 b x = h.2.1 b x := fun b hb => put_ne (by omega)
    unfold upS
    rw [e 94 (by decide), e 95 (by decide), e 97 (by decide), e 98 (by decide), put_if]
    refine ⟨by rw [if_neg (by omega)]; exact k1, by rw [if_neg (by omega)]; exact k2, ?_, by rw [if_neg (by omega)]; exact k4, by rw [if_neg (by omega)]; exact k5⟩
    by_cases c : x = p
    · rw [if_pos c, if_pos ⟨rfl, c⟩]
    · rw [if_neg c, if_neg (fun z => c z.2)]
      exact k3
  · unfold upS
    rw [put_ne (by omega), if_neg (by omega)]
    exact g2 i hi
theorem MG.up4 {h : Hp} {S : Nat → Nat → Int} {Y : Int} {p : Nat} {v : Int32} (hg : MG h S Y) : MG (hpI h 98 p v) (upS S 4 p v.toInt) Y := by
  obtain ⟨g1, g2, g3⟩ := hg
  refine ⟨fun x hx => ?_, fun i hi => ?_, by rw [put_ne (by omega)]; exact g3⟩
  · obtain ⟨k1, k2, k3, k4, k5⟩ := g1 x hx
    have e : ∀ b, b ≠ 98 → (hpI h 98 p v).2.1 b x = h.2.1 b x := fun b hb => put_ne (by omega)
    unfold upS
    rw [e 94 (by decide), e 95 (by decide), e 96 (by decide), e 97 (by decide), put_if]
    refine ⟨by rw [if_neg (by omega)]; exact k1, by rw [if_neg (by omega)]; exact k2, by rw [if_neg (by omega)]; exact k3, by rw [if_neg (by omega)]; exact k4, ?_⟩
    by_cases c : x = p
    · rw [if_pos c, if_pos ⟨rfl, c⟩]
    · rw [if_neg c, if_neg (fun z => c z.2)]
      exact k5
  · unfold upS
    rw [put_ne (by omega), if_neg (by omega)]
    exact g2 i hi
theorem upS_up {S : Nat → Nat → Int} {a p : Nat} {v w : Int} : upS (upS S a p v) a p w = upS S a p w := by
  funext b x
  unfold upS
  by_cases c : b = a ∧ x = p
  · rw [if_pos c, if_pos c]
  · rw [if_neg c, if_neg c, if_neg c]
end JN99tz2state
section JN99tz3cspec
/-! What the calls answer, and the class's calls. -/
/-- a set as a number -/
def zint (f : Nat → Bool) : Int := ((f 0).toNat + 2 * (f 1).toNat + 4 * (f 2).toNat + 8 * (f 3).toNat + 16 * (f 4).toNat + 32 * (f 5).toNat + 64 * (f 6).toNat : Nat)
theorem zint_t : ∀ n, n < 128 → n = (n.testBit 0).toNat + 2 * (n.testBit 1).toNat + 4 * (n.testBit 2).toNat + 8 * (n.testBit 3).toNat + 16 * (n.testBit 4).toNat + 32 * (n.testBit 5).toNat + 64 * (n.testBit 6).toNat := by decide +kernel
theorem BSET.val {b : Int32} {f : Nat → Bool} (hb : BSET b f) : b.toInt = zint f := by
  obtain ⟨n, hn, rfl, hf⟩ := hb
  rw [i32n hn]
  unfold zint
  rw [← hf 0 (by decide), ← hf 1 (by decide), ← hf 2 (by decide), ← hf 3 (by decide), ← hf 4 (by decide), ← hf 5 (by decide), ← hf 6 (by decide)]
  exact congrArg _ (zint_t n hn)
abbrev isP (N : Nat) (a : Int32) : Prop := 0 ≤ a.toInt ∧ a.toInt < (N : Int)
abbrev is01 (a : Int32) : Prop := 0 ≤ a.toInt ∧ a.toInt ≤ 1
/-- most, and where first -/
def zmx (cnt : Nat → Nat) : Nat → Nat × Int
  | 0 => (0, -1)
  | l + 1 => if (zmx cnt l).2 < cnt l then (l, cnt l) else zmx cnt l
/-- the same over some alone, from nobody on -/
def zmf (R : Nat → Bool) (cnt : Nat → Nat) : Nat → Int × Int
  | 0 => (-5, -5)
  | p + 1 => if R p = true ∧ (zmf R cnt p).2 < cnt p then ((p : Int), (cnt p : Int)) else zmf R cnt p
/-- those of the first so many that have f -/
def zset (f : Nat → Bool) : Nat → (Nat → Bool)
  | 0 => fun _ => false
  | l + 1 => fun x => zset f l x || (f l && decide (x = l))
/-- the first of those that has f, from a on -/
def zff (f : Nat → Bool) : Nat → Nat → Int
  | 0, _ => -5
  | n + 1, a => if f a = true then (a : Int) else zff f n (a + 1)
section CALLS
variable {X : Scr} {Q : Option Value → Hp → Prop} {q : Nat} {S : Nat → Nat → Int} {Y : Int} {cs : List Cl} {m : List Int} {N : Nat} {K : Nat → Bool} {h : Hp}
theorem cis_ok {dp : Nat} (ha : AST q S Y cs m N K h) (hh : HI h) (pI : Int32) (hQ : Q (some (.int (b2i (decide (isP N pI))))) h) : Ends X dp 26 0 [.ref 1, .int pI] [] h Q := by
  refine chas_ok pI hh ?_
  rw [ha.2.2.2.2.1, ← Bool.decide_and]
  exact hQ
theorem crun_ok {dp : Nat} (ha : AST q S Y cs m N K h) (hN7 : N ≤ 7) (hs : HS h) (hQ : ∀ r : Int32, BSET r (zR N K) → Q (some (.int r)) h) : Ends X (dp + 1) 29 0 [.ref 1] [] h Q :=
  w_rng hs (w_evy hs ⟨_, rfl, hs, hQ _ ((BSET.every ha.2.2.2.2.1 hN7).no ha.2.2.2.2.2.1)⟩)
theorem crun18_ok {dp : Nat} (hn : NCS q S Y cs m N K h) (hN7 : N ≤ 7) (hs : HS h) (hQ : ∀ r : Int32, BSET r (zR N K) → Q (some (.int r)) h) : Ends X (dp + 1) 29 0 [.ref 18] [] h Q :=
  w_rng18 hs (w_evy18 hs ⟨_, rfl, hs, hQ _ ((BSET.every hn.2.2.1 hN7).no hn.2.2.2.1)⟩)
def zTold (Y : Int) (N : Nat) (K : Nat → Bool) (w : Int) : Int := if w = 0 then Y else if w = 1 then zint (zR N K) else if w = 2 then zint K else -1
theorem ctold_ok {dp : Nat} (ha : AST q S Y cs m N K h) (hN7 : N ≤ 7) (hh : HI h) (wI : Int32) (hQ : ∀ r : Int32, r.toInt = zTold Y N K wI.toInt → Q (some (.int r)) h) : Ends X (dp + 1 + 1) 70 0 [.ref 0, .int wI] [] h Q := by
  unfold zTold at hQ
  refine w_ctold wI hh.hs ⟨fun e => hQ _ ?_, fun e => hQ _ ?_, fun e => crun_ok ha hN7 hh.hs (fun r hr => ⟨r, rfl, hh.hs, hQ _ ?_⟩), fun e => hQ _ ?_⟩
  · rw [if_neg (by omega), if_neg (by omega), if_neg (by omega)]; rfl
  · rw [if_pos e]; exact ha.2.2.2.1
  · rw [if_neg (by omega), if_pos e]; exact hr.val
  · rw [if_neg (by omega), if_neg (by omega), if_pos e]; exact ha.2.2.2.2.2.1.val
theorem iv_21 : ∀ k, k < 7 → ivl 21 k = (0, 6) := by
  have : ((List.range 7).all (fun k => decide (ivl 21 k = (0, 6)))) = true := by decide +kernel
  exact fun k hk => of_decide_eq_true (List.all_eq_true.mp this k (List.mem_range.mpr hk))
theorem iv_23 : ∀ k, k < 7 → ivl 23 k = (0, 9) := by
  have : ((List.range 7).all (fun k => decide (ivl 23 k = (0, 9)))) = true := by decide +kernel
  exact fun k hk => of_decide_eq_true (List.all_eq_true.mp this k (List.mem_range.mpr hk))
theorem YR.put {a p : Nat} {v : Int32} (hY : YB q) (hr : YR q h cs m) (ha : a < 39) : YR q (hpI h a p v) cs m := by
  have rq := yb_rng hY
  obtain ⟨r0, r1, r2, r3⟩ := hr
  refine ⟨r0, by rw [put_ne (by omega)]; exact r1, fun c hc => ?_, fun j hj => by rw [put_ne (by omega)]; exact r3 j hj⟩
  rw [put_ne (by omega), put_ne (by omega), put_ne (by omega)]
  exact r2 c hc
theorem NCS.up2 (hY : YB q) {p : Nat} {v : Int32} (hn : NCS q S Y cs m N K h) : NCS q (upS S 2 p v.toInt) Y cs m N K (hpI h 21 p v) := by
  obtain ⟨a1, a2, a3, a4, a5, a6, a7, a8⟩ := hn
  exact ⟨a1.up2, a2.put hY (by decide), by rw [put_ne (by omega)]; exact a3, by rw [put_ne (by omega)]; exact a4, by rw [put_ne (by omega)]; exact a5, by rw [put_ne (by omega)]; exact a6, by rw [put_ne (by omega)]; exact a7, by rw [put_ne (by omega)]; exact a8⟩
theorem NCS.up4 (hY : YB q) {p : Nat} {v : Int32} (hn : NCS q S Y cs m N K h) : NCS q (upS S 4 p v.toInt) Y cs m N K (hpI h 23 p v) := by
  obtain ⟨a1, a2, a3, a4, a5, a6, a7, a8⟩ := hn
  exact ⟨a1.up4, a2.put hY (by decide), by rw [put_ne (by omega)]; exact a3, by rw [put_ne (by omega)]; exact a4, by rw [put_ne (by omega)]; exact a5, by rw [put_ne (by omega)]; exact a6, by rw [put_ne (by omega)]; exact a7, by rw [put_ne (by omega)]; exact a8⟩
theorem MOK.up2 {p : Nat} {v : Int} (mk : MOK S Y N) (hv : 0 ≤ v ∧ v ≤ 6) : MOK (upS S 2 p v) Y N := ⟨upS_rg mk.1 hv, upS_5 (by decide) mk.2.1, mk.2.2⟩
theorem MOK.up4 {p : Nat} {v : Int} (mk : MOK S Y N) (hv : 0 ≤ v ∧ v ≤ 9) : MOK (upS S 4 p v) Y N := ⟨upS_rg4 mk.1 hv, upS_5 (by decide) mk.2.1, mk.2.2⟩
theorem cfrm_ok {dp : Nat} (ha : AST q S Y cs m N K h) (mk : MOK S Y N) (yk : YOK cs m) (hh : HI h) (cI lI : Int32) (c l : Nat) (hc : cI.toInt = c) (c7 : c < 7) (hl : lI.toInt = l) (l7 : l < 7) (hQ : ∀ (r : Int32) h1, HI h1 → frm WTQ h h1 → BSET r (zC (upS S 2 c l) Y cs m N K) → Q (some (.int r)) h1) : Ends X (dp + 1 + 1 + 1 + 1 + 1) 101 0 [.ref 0, .int cI, .int lI] [] h Q := by
  refine w_cfrm cI lI hh.hs (asks_ok ha hh (fun h1 g1 f1 n1 => ⟨rfl, g1.hs, inB_iff (by omega) (by omega), ?_⟩))
  rw [show cI.toNatClampNeg = c by show cI.toInt.toNat = _; omega]
  have g2 : HI (hpI h1 21 c lI) := HI_put g1 (by rw [iv_21 c c7]; omega) (by rw [iv_21 c c7]; omega)
  have n2 := n1.up2 (p := c) (v := lI) ha.1
  rw [hl] at n2
  exact ncau_ok ha.1 (mk.up2 (by omega)) yk g2 n2 (fun r h' g f _ _ hr => ⟨r, rfl, g.hs, hQ r h' g (frm_trans (frm_put f1 (by simp [inW, WTQ])) (WCX_T f)) hr⟩)
/-- stand -/
def zStaC (S : Nat → Nat → Int) (Y : Int) (cs : List Cl) (m : List Int) (N : Nat) (K : Nat → Bool) (p : Nat) : Nat → Nat := fun l => pop (zC (upS S 2 p l) Y cs m N K)
def zSta (S : Nat → Nat → Int) (Y : Int) (cs : List Cl) (m : List Int) (N : Nat) (K : Nat → Bool) (pI wI : Int32) : Int := if ¬ isP N pI then -1 else if ¬ is01 wI then -1 else if K pI.toInt.toNat = false then -3 else if wI.toInt = 0 then ((zmx (zStaC S Y cs m N K pI.toInt.toNat) 7).1 : Int) else (zmx (zStaC S Y cs m N K pI.toInt.toNat) 7).2
theorem csta_go {dp : Nat} (mk : MOK S Y N) (yk : YOK cs m) (pI wI : Int32) (p : Nat) (hp : pI.toInt = p) (p7 : p < 7) : ∀ (n l : Nat) (eI mI lI : Int32) (x : Value) (h : Hp), l + n = 7 → lI.toInt = l → eI.toInt = (zmx (zStaC S Y cs m N K p) l).1 → mI.toInt = (zmx (zStaC S Y cs m N K p) l).2 → AST q S Y cs m N K h → HI h → (∀ (r : Int32) h1, HI h1 → frm WTQ h h1 → r.toInt = (if wI.toInt = 0 then ((zmx (zStaC S Y cs m N K p) 7).1 : Int) else (zmx (zStaC S Y cs m N K p) 7).2) → Q (some (.int r)) h1) → Ends X (dp + 1 + 1 + 1 + 1 + 1 + 1) 75 44 [.ref 0, .int pI, .int wI, .int eI, .int mI, .int lI, x] [] h Q
  | n, l, eI, mI, lI, x, h, hn, hl, he, hm, ha, hh, hQ => by
    have j7 : (7 : Int32).toInt = 7 := rfl
    have z0' : (0 : Int32).toInt = 0 := rfl
    refine w_csta1 pI wI eI mI lI x hh.hs ⟨fun e => ⟨fun c => ?_, fun c => ?_⟩, fun e => ?_⟩
    · have e : (7 : Int32).toInt ≤ lI.toInt := of_decide_eq_true (cJ e)
      have c : ¬ wI.toInt = (0 : Int32).toInt := of_decide_eq_true (cJ c)
      have : l = 7 := by omega
      subst this
      exact hQ mI h hh frm_refl (by rw [if_neg (by omega)]; exact hm)
    · have e : (7 : Int32).toInt ≤ lI.toInt := of_decide_eq_true (cJ e)
      have c : ¬ ¬ wI.toInt = (0 : Int32).toInt := of_decide_eq_false (cJ c)
      have : l = 7 := by omega
      subst this
      exact hQ eI h hh frm_refl (by rw [if_pos (by omega)]; exact he)
    have e : ¬ (7 : Int32).toInt ≤ lI.toInt := of_decide_eq_false (cJ e)
    obtain ⟨n, rfl⟩ : ∃ k, n = k + 1 := ⟨n - 1, by omega⟩
    have n1 : (lI + 1).toInt = ((l + 1 : Nat) : Int) := by rw [i_add (by rw [i1]; omega) (by rw [i1]; omega), i1]; omega
    refine cfrm_ok ha mk yk hh pI lI p l hp p7 hl (by omega) (fun r4 h3 g3 f3 b4 => ⟨r4, rfl, g3.hs, bct_ok b4 g3.hs (fun r7 h7 => ⟨r7, rfl, g3.hs, fun c => ?_, fun c => ?_⟩)⟩)
    all_goals have h7 : r7.toInt = (zStaC S Y cs m N K p l : Int) := h7
    · have c : r7.toInt ≤ mI.toInt := of_decide_eq_true (cJ c)
      have st : zmx (zStaC S Y cs m N K p) (l + 1) = zmx (zStaC S Y cs m N K p) l := if_neg (by omega)
      exact csta_go mk yk pI wI p hp p7 n (l + 1) _ _ _ _ h3 (by omega) n1 (by rw [st]; exact he) (by rw [st]; exact hm) (ha.fr f3) g3 (fun r h1 d1 d2 d3 => hQ r h1 d1 (frm_trans f3 d2) d3)
    · have c : ¬ r7.toInt ≤ mI.toInt := of_decide_eq_false (cJ c)
      have st : zmx (zStaC S Y cs m N K p) (l + 1) = (l, (zStaC S Y cs m N K p l : Int)) := if_pos (by omega)
      exact csta_go mk yk pI wI p hp p7 n (l + 1) _ _ _ _ h3 (by omega) n1 (by rw [st]; exact hl) (by rw [st]; exact h7) (ha.fr f3) g3 (fun r h1 d1 d2 d3 => hQ r h1 d1 (frm_trans f3 d2) d3)
theorem csta_ok {dp : Nat} (ha : AST q S Y cs m N K h) (mk : MOK S Y N) (yk : YOK cs m) (hh : HI h) (pI wI : Int32) (hQ : ∀ (r : Int32) h1, HI h1 → frm WTQ h h1 → r.toInt = zSta S Y cs m N K pI wI → Q (some (.int r)) h1) : Ends X (dp + 1 + 1 + 1 + 1 + 1 + 1) 75 0 [.ref 0, .int pI, .int wI, .retAddr 0, .retAddr 0, .retAddr 0, .retAddr 0] [] h Q := by
  have z0' : (0 : Int32).toInt = 0 := rfl
  have N7 := mk.2.2.2
  unfold zSta at hQ
  refine w_csta0 pI wI hh.hs (cis_ok ha hh pI ⟨_, rfl, hh.hs, fun e => ?_, fun e => ⟨fun e2 => ?_, fun e2 => ⟨fun e3 => ?_, fun e3 => ?_⟩⟩⟩)
  · have e := of_decide_eq_false (cz e)
    exact hQ _ h hh frm_refl (by rw [if_pos e]; rfl)
  all_goals
    have e := of_decide_eq_true (cn e)
    rw [if_neg (fun z => z e)] at hQ
  · have e2 : wI.toInt < (0 : Int32).toInt := of_decide_eq_true (cJ e2)
    exact hQ _ h hh frm_refl (by rw [if_pos (by omega)]; rfl)
  · have e2 : ¬ wI.toInt < (0 : Int32).toInt := of_decide_eq_false (cJ e2)
    have e3 : wI.toInt ≤ (1 : Int32).toInt := of_decide_eq_true (cJ e3)
    rw [i1] at e3
    have hp : pI.toInt = (pI.toInt.toNat : Int) := by omega
    rw [if_neg (by omega)] at hQ
    refine dct_ok ha hh.hs pI pI.toInt.toNat hp (by omega) ⟨_, rfl, hh.hs, fun e4 => ?_, fun e4 => ?_⟩
    · rw [if_neg (by rw [cn2 e4]; decide)] at hQ
      exact csta_go mk yk pI wI pI.toInt.toNat hp (by omega) 7 0 0 (-1) 0 _ h (by decide) rfl rfl rfl ha hh hQ
    · rw [if_pos (cz2 e4)] at hQ
      exact hQ _ h hh frm_refl rfl
  · have e3 : ¬ wI.toInt ≤ (1 : Int32).toInt := of_decide_eq_false (cJ e3)
    rw [i1] at e3
    exact hQ _ h hh frm_refl (by rw [if_pos (by omega)]; rfl)
end CALLS
end JN99tz3cspec
